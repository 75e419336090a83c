set_option maxRecDepth 20000 in
set_option maxHeartbeats 2000000 in
theorem s_X5_init_0 {G : GG} {nc ns : Nat} {h : PH} {Z : Option Value → PH → Prop} {l0 : Nat} {h1 : PH} {mc1 : Nat} {ms1 : Nat}
    (c1 : (hN h) + 1 ≤ nc)
    (c2 : (hS h) + 4 ≤ ns)
    (e3 : Ev G m_X1_init [.ref (hN h), .int 50] (nA h 11 4) mc1 ms1 (Ret none h1))
    (c4 : (hN h + 1) + mc1 ≤ nc)
    (c5 : (hS h + 4) + ms1 ≤ ns)
    (c6 : hK h1 l0 = 15)
    (c7 : (hN h) ≠ 0)
    (k8 : RR G nc ns m_X5_init 17 [some (.ref l0)] [] (sR h1 l0 0 (hN h)) Z) :
    RR G nc ns m_X5_init 0 [some (.ref l0)] [] h Z := by
  refine r_aload_n dX5_init_0 rfl ?_
  refine r_objInit dX5_init_1 lk_RX5_1 iv_obj cd_obj (by decide) (by decide) (Nat.le_of_ble_eq_true rfl) ?_
  refine r_aload_n dX5_init_4 rfl ?_
  refine r_new (c := 1) dX5_init_5 rfl rfl (by decide) cl_RX5_7 in_RX1 it_RX1 (c1) (c2) ?_
  refine r_dup dX5_init_8 rfl ?_
  refine r_bipush (v := 50) dX5_init_9 (by decide) ?_
  refine r_callI1 (mc := mc1) (ms := ms1) dX5_init_11 ck_X1_init iv_X1_init rfl rfl lk_RX5_11 (by decide) (by decide) (As := [.int 50]) rfl rfl (Nat.le_of_ble_eq_true rfl) (c4) (c5) (e3) ?_
  refine r_putR (c := 5) (k := 0) dX5_init_14 rfl rfl (by decide) fl_RX5_14 (c6) (Or.inr ⟨rfl, rfl, rfl⟩) rfl (c7) ?_
  exact k8

set_option maxRecDepth 20000 in
set_option maxHeartbeats 2000000 in
theorem s_X5_init_17 {G : GG} {nc ns : Nat} {h : PH} {Z : Option Value → PH → Prop} {l0 : Nat} {h1 : PH} {mc1 : Nat} {ms1 : Nat}
    (c1 : (hN h) + 1 ≤ nc)
    (c2 : (hS h) + 9 ≤ ns)
    (c3 : hK (nA h 13 9) l0 = 15)
    (c4 : (hR (nA h 13 9) l0 0) ≠ 0)
    (e5 : Ev G m_X3_init [.ref (hN h), .ref (hR (nA h 13 9) l0 0)] (nA h 13 9) mc1 ms1 (Ret none h1))
    (c6 : (hN h + 1) + mc1 ≤ nc)
    (c7 : (hS h + 9) + ms1 ≤ ns)
    (c8 : hK h1 l0 = 15)
    (c9 : (hN h) ≠ 0)
    (k10 : RR G nc ns m_X5_init 32 [some (.ref l0)] [] (sR h1 l0 1 (hN h)) Z) :
    RR G nc ns m_X5_init 17 [some (.ref l0)] [] h Z := by
  refine r_aload_n dX5_init_17 rfl ?_
  refine r_new (c := 3) dX5_init_18 rfl rfl (by decide) cl_RX5_18 in_RX3 it_RX3 (c1) (c2) ?_
  refine r_dup dX5_init_21 rfl ?_
  refine r_aload_n dX5_init_22 rfl ?_
  refine r_getR (c := 5) (k := 0) dX5_init_23 rfl rfl (by decide) fl_RX5_14 (c3) rfl (c4) ?_
  refine r_callI1 (mc := mc1) (ms := ms1) dX5_init_26 ck_X3_init iv_X3_init rfl rfl lk_RX5_20 (by decide) (by decide) (As := [.ref (hR (nA h 13 9) l0 0)]) rfl rfl (Nat.le_of_ble_eq_true rfl) (c6) (c7) (e5) ?_
  refine r_putR (c := 5) (k := 1) dX5_init_29 rfl rfl (by decide) fl_RX5_23 (c8) (Or.inr ⟨rfl, rfl, rfl⟩) rfl (c9) ?_
  exact k10

set_option maxRecDepth 20000 in
set_option maxHeartbeats 2000000 in
theorem s_X5_init_32 {G : GG} {nc ns : Nat} {h : PH} {Z : Option Value → PH → Prop} {l0 : Nat} {h1 : PH} {mc1 : Nat} {ms1 : Nat}
    (c1 : (hN h) + 1 ≤ nc)
    (c2 : (hS h) + 7 ≤ ns)
    (c3 : hK (nA h 10 7) l0 = 15)
    (c4 : (hR (nA h 10 7) l0 0) ≠ 0)
    (c5 : (hR (nA h 10 7) l0 1) ≠ 0)
    (e6 : Ev G m_X0_init [.ref (hN h), .ref (hR (nA h 10 7) l0 0), .ref (hR (nA h 10 7) l0 1)] (nA h 10 7) mc1 ms1 (Ret none h1))
    (c7 : (hN h + 1) + mc1 ≤ nc)
    (c8 : (hS h + 7) + ms1 ≤ ns)
    (c9 : hK h1 l0 = 15)
    (c10 : (hN h) ≠ 0)
    (k11 : RR G nc ns m_X5_init 51 [some (.ref l0)] [] (sR h1 l0 2 (hN h)) Z) :
    RR G nc ns m_X5_init 32 [some (.ref l0)] [] h Z := by
  refine r_aload_n dX5_init_32 rfl ?_
  refine r_new (c := 0) dX5_init_33 rfl rfl (by decide) cl_RX5_27 in_RX0 it_RX0 (c1) (c2) ?_
  refine r_dup dX5_init_36 rfl ?_
  refine r_aload_n dX5_init_37 rfl ?_
  refine r_getR (c := 5) (k := 0) dX5_init_38 rfl rfl (by decide) fl_RX5_14 (c3) rfl (c4) ?_
  refine r_aload_n dX5_init_41 rfl ?_
  refine r_getR (c := 5) (k := 1) dX5_init_42 rfl rfl (by decide) fl_RX5_23 (c3) rfl (c5) ?_
  refine r_callI1 (mc := mc1) (ms := ms1) dX5_init_45 ck_X0_init iv_X0_init rfl rfl lk_RX5_29 (by decide) (by decide) (As := [.ref (hR (nA h 10 7) l0 0), .ref (hR (nA h 10 7) l0 1)]) rfl rfl (Nat.le_of_ble_eq_true rfl) (c7) (c8) (e6) ?_
  refine r_putR (c := 5) (k := 2) dX5_init_48 rfl rfl (by decide) fl_RX5_32 (c9) (Or.inr ⟨rfl, rfl, rfl⟩) rfl (c10) ?_
  exact k11

set_option maxRecDepth 20000 in
set_option maxHeartbeats 2000000 in
theorem s_X5_init_51 {G : GG} {nc ns : Nat} {h : PH} {Z : Option Value → PH → Prop} {l0 : Nat} {h1 : PH} {mc1 : Nat} {ms1 : Nat}
    (c1 : (hN h) + 1 ≤ nc)
    (c2 : (hS h) + 7 ≤ ns)
    (c3 : hK (nA h 14 7) l0 = 15)
    (c4 : (hR (nA h 14 7) l0 0) ≠ 0)
    (c5 : (hR (nA h 14 7) l0 2) ≠ 0)
    (e6 : Ev G m_X4_init [.ref (hN h), .ref (hR (nA h 14 7) l0 0), .ref (hR (nA h 14 7) l0 2)] (nA h 14 7) mc1 ms1 (Ret none h1))
    (c7 : (hN h + 1) + mc1 ≤ nc)
    (c8 : (hS h + 7) + ms1 ≤ ns)
    (c9 : hK h1 l0 = 15)
    (c10 : (hN h) ≠ 0)
    (k11 : RR G nc ns m_X5_init 70 [some (.ref l0)] [] (sR h1 l0 3 (hN h)) Z) :
    RR G nc ns m_X5_init 51 [some (.ref l0)] [] h Z := by
  refine r_aload_n dX5_init_51 rfl ?_
  refine r_new (c := 4) dX5_init_52 rfl rfl (by decide) cl_RX5_36 in_RX4 it_RX4 (c1) (c2) ?_
  refine r_dup dX5_init_55 rfl ?_
  refine r_aload_n dX5_init_56 rfl ?_
  refine r_getR (c := 5) (k := 0) dX5_init_57 rfl rfl (by decide) fl_RX5_14 (c3) rfl (c4) ?_
  refine r_aload_n dX5_init_60 rfl ?_
  refine r_getR (c := 5) (k := 2) dX5_init_61 rfl rfl (by decide) fl_RX5_32 (c3) rfl (c5) ?_
  refine r_callI1 (mc := mc1) (ms := ms1) dX5_init_64 ck_X4_init iv_X4_init rfl rfl lk_RX5_38 (by decide) (by decide) (As := [.ref (hR (nA h 14 7) l0 0), .ref (hR (nA h 14 7) l0 2)]) rfl rfl (Nat.le_of_ble_eq_true rfl) (c7) (c8) (e6) ?_
  refine r_putR (c := 5) (k := 3) dX5_init_67 rfl rfl (by decide) fl_RX5_41 (c9) (Or.inr ⟨rfl, rfl, rfl⟩) rfl (c10) ?_
  exact k11

set_option maxRecDepth 20000 in
set_option maxHeartbeats 2000000 in
theorem s_X5_init_70 {G : GG} {nc ns : Nat} {h : PH} {Z : Option Value → PH → Prop} {l0 : Nat} {h1 : PH} {mc1 : Nat} {ms1 : Nat}
    (c1 : (hN h) + 1 ≤ nc)
    (c2 : (hS h) + 4 ≤ ns)
    (e3 : Ev G m_X1_init [.ref (hN h), .int 40] (nA h 11 4) mc1 ms1 (Ret none h1))
    (c4 : (hN h + 1) + mc1 ≤ nc)
    (c5 : (hS h + 4) + ms1 ≤ ns)
    (c6 : hK h1 l0 = 15)
    (c7 : (hN h) ≠ 0)
    (k8 : RR G nc ns m_X5_init 83 [some (.ref l0)] [] (sR h1 l0 4 (hN h)) Z) :
    RR G nc ns m_X5_init 70 [some (.ref l0)] [] h Z := by
  refine r_aload_n dX5_init_70 rfl ?_
  refine r_new (c := 1) dX5_init_71 rfl rfl (by decide) cl_RX5_7 in_RX1 it_RX1 (c1) (c2) ?_
  refine r_dup dX5_init_74 rfl ?_
  refine r_bipush (v := 40) dX5_init_75 (by decide) ?_
  refine r_callI1 (mc := mc1) (ms := ms1) dX5_init_77 ck_X1_init iv_X1_init rfl rfl lk_RX5_11 (by decide) (by decide) (As := [.int 40]) rfl rfl (Nat.le_of_ble_eq_true rfl) (c4) (c5) (e3) ?_
  refine r_putR (c := 5) (k := 4) dX5_init_80 rfl rfl (by decide) fl_RX5_45 (c6) (Or.inr ⟨rfl, rfl, rfl⟩) rfl (c7) ?_
  exact k8

set_option maxRecDepth 20000 in
set_option maxHeartbeats 2000000 in
theorem s_X5_init_83 {G : GG} {nc ns : Nat} {h : PH} {Z : Option Value → PH → Prop} {l0 : Nat} {h1 : PH} {mc1 : Nat} {ms1 : Nat}
    (c1 : (hN h) + 1 ≤ nc)
    (c2 : (hS h) + 9 ≤ ns)
    (c3 : hK (nA h 13 9) l0 = 15)
    (c4 : (hR (nA h 13 9) l0 4) ≠ 0)
    (e5 : Ev G m_X3_init [.ref (hN h), .ref (hR (nA h 13 9) l0 4)] (nA h 13 9) mc1 ms1 (Ret none h1))
    (c6 : (hN h + 1) + mc1 ≤ nc)
    (c7 : (hS h + 9) + ms1 ≤ ns)
    (c8 : hK h1 l0 = 15)
    (c9 : (hN h) ≠ 0)
    (k10 : RR G nc ns m_X5_init 98 [some (.ref l0)] [] (sR h1 l0 5 (hN h)) Z) :
    RR G nc ns m_X5_init 83 [some (.ref l0)] [] h Z := by
  refine r_aload_n dX5_init_83 rfl ?_
  refine r_new (c := 3) dX5_init_84 rfl rfl (by decide) cl_RX5_18 in_RX3 it_RX3 (c1) (c2) ?_
  refine r_dup dX5_init_87 rfl ?_
  refine r_aload_n dX5_init_88 rfl ?_
  refine r_getR (c := 5) (k := 4) dX5_init_89 rfl rfl (by decide) fl_RX5_45 (c3) rfl (c4) ?_
  refine r_callI1 (mc := mc1) (ms := ms1) dX5_init_92 ck_X3_init iv_X3_init rfl rfl lk_RX5_20 (by decide) (by decide) (As := [.ref (hR (nA h 13 9) l0 4)]) rfl rfl (Nat.le_of_ble_eq_true rfl) (c6) (c7) (e5) ?_
  refine r_putR (c := 5) (k := 5) dX5_init_95 rfl rfl (by decide) fl_RX5_48 (c8) (Or.inr ⟨rfl, rfl, rfl⟩) rfl (c9) ?_
  exact k10

set_option maxRecDepth 20000 in
set_option maxHeartbeats 2000000 in
theorem s_X5_init_98 {G : GG} {nc ns : Nat} {h : PH} {Z : Option Value → PH → Prop} {l0 : Nat} {h1 : PH} {mc1 : Nat} {ms1 : Nat}
    (c1 : (hN h) + 1 ≤ nc)
    (c2 : (hS h) + 6 ≤ ns)
    (c3 : hK (nA h 12 6) l0 = 15)
    (c4 : (hR (nA h 12 6) l0 4) ≠ 0)
    (c5 : (hR (nA h 12 6) l0 5) ≠ 0)
    (e6 : Ev G m_X2_init [.ref (hN h), .ref (hR (nA h 12 6) l0 4), .ref (hR (nA h 12 6) l0 5)] (nA h 12 6) mc1 ms1 (Ret none h1))
    (c7 : (hN h + 1) + mc1 ≤ nc)
    (c8 : (hS h + 6) + ms1 ≤ ns)
    (c9 : hK h1 l0 = 15)
    (c10 : (hN h) ≠ 0)
    (k11 : RR G nc ns m_X5_init 117 [some (.ref l0)] [] (sR h1 l0 6 (hN h)) Z) :
    RR G nc ns m_X5_init 98 [some (.ref l0)] [] h Z := by
  refine r_aload_n dX5_init_98 rfl ?_
  refine r_new (c := 2) dX5_init_99 rfl rfl (by decide) cl_RX5_51 in_RX2 it_RX2 (c1) (c2) ?_
  refine r_dup dX5_init_102 rfl ?_
  refine r_aload_n dX5_init_103 rfl ?_
  refine r_getR (c := 5) (k := 4) dX5_init_104 rfl rfl (by decide) fl_RX5_45 (c3) rfl (c4) ?_
  refine r_aload_n dX5_init_107 rfl ?_
  refine r_getR (c := 5) (k := 5) dX5_init_108 rfl rfl (by decide) fl_RX5_48 (c3) rfl (c5) ?_
  refine r_callI1 (mc := mc1) (ms := ms1) dX5_init_111 ck_X2_init iv_X2_init rfl rfl lk_RX5_53 (by decide) (by decide) (As := [.ref (hR (nA h 12 6) l0 4), .ref (hR (nA h 12 6) l0 5)]) rfl rfl (Nat.le_of_ble_eq_true rfl) (c7) (c8) (e6) ?_
  refine r_putR (c := 5) (k := 6) dX5_init_114 rfl rfl (by decide) fl_RX5_54 (c9) (Or.inr ⟨rfl, rfl, rfl⟩) rfl (c10) ?_
  exact k11

set_option maxRecDepth 20000 in
set_option maxHeartbeats 2000000 in
theorem s_X5_init_117 {G : GG} {nc ns : Nat} {h : PH} {Z : Option Value → PH → Prop} {l0 : Nat}
    (k1 : Z none h) :
    RR G nc ns m_X5_init 117 [some (.ref l0)] [] h Z := by
  exact r_return dX5_init_117 rfl (k1)

set_option maxRecDepth 20000 in
set_option maxHeartbeats 2000000 in
theorem s_X5_node_0 {G : GG} {nc ns : Nat} {h : PH} {Z : Option Value → PH → Prop} {l0 : Nat} {l1 : Int32} {x1 : Int32} {h1 : PH}
    (c1 : hK h l0 = 15)
    (c2 : (hR h l0 0) ≠ 0)
    (e3 : Ev G m_X1_add [.ref (hR h l0 0), .int l1] h 0 0 (Ret (some (.int x1)) h1))
    (c4 : (hN h) ≤ nc)
    (c5 : (hS h) ≤ ns)
    (c6 : hK h (hR h l0 0) = 11)
    (k7 : Z (some (.int x1)) h1) :
    RR G nc ns m_X5_node 0 [some (.ref l0), some (.int l1)] [] h Z := by
  refine r_aload_n dX5_node_0 rfl ?_
  refine r_getR (c := 5) (k := 0) dX5_node_1 rfl rfl (by decide) fl_RX5_14 (c1) rfl (c2) ?_
  refine r_iload_n dX5_node_4 rfl ?_
  refine r_callV1 (c := 1) (mc := 0) (ms := 0) dX5_node_5 ck_X1_add iv_X1_add sl_X1_add lk_RX5_58 rfl rfl (c6) (by decide) (by decide) (As := [.int l1]) rfl rfl (Nat.le_of_ble_eq_true rfl) (c4) (c5) (e3) ?_
  exact r_ireturn dX5_node_8 rfl (k7)

set_option maxRecDepth 20000 in
set_option maxHeartbeats 2000000 in
theorem s_X5_edge_0 {G : GG} {nc ns : Nat} {h : PH} {Z : Option Value → PH → Prop} {l0 : Nat} {l1 : Int32} {l2 : Int32} {l3 : Int32} {x1 : Int32} {x2 : Int32} {x3 : Int32} {h4 : PH} {h5 : PH}
    (c1 : hK h l0 = 15)
    (c2 : (hR h l0 0) ≠ 0)
    (e3 : Ev G m_X1_holds [.ref (hR h l0 0), .int 0, .int l1] h 0 0 (Ret (some (.int x1)) h))
    (c4 : (hN h) ≤ nc)
    (c5 : (hS h) ≤ ns)
    (c6 : hK h (hR h l0 0) = 11)
    (k7 : (x1 = 0) → Z (some (.int (-1))) h)
    (e8 : (¬ x1 = 0) → Ev G m_X1_holds [.ref (hR h l0 0), .int 1, .int l2] h 0 0 (Ret (some (.int x2)) h))
    (e9 : (¬ x1 = 0) → (¬ x2 = 0) → Ev G m_X1_joins [.ref (hR h l0 0), .int l1, .int l2] h 0 0 (Ret (some (.int x3)) h))
    (e10 : (¬ x1 = 0) → (¬ x2 = 0) → (¬ x3 = l3) → (l3 = 0) → Ev G m_X1_unjoin [.ref (hR h l0 0), .int l1, .int l2] h 0 0 (Ret none h4))
    (k11 : (¬ x1 = 0) → (¬ x2 = 0) → (¬ x3 = l3) → (l3 = 0) → Z (some (.int 1)) h4)
    (e12 : (¬ x1 = 0) → (¬ x2 = 0) → (¬ x3 = l3) → (¬ l3 = 0) → Ev G m_X1_joinAll [.ref (hR h l0 0), .long (1 <<< (Int32.toInt64 l1 &&& 63)), .long (1 <<< (Int32.toInt64 l2 &&& 63))] h 0 0 (Ret none h5))
    (k13 : (¬ x1 = 0) → (¬ x2 = 0) → (¬ x3 = l3) → (¬ l3 = 0) → Z (some (.int 1)) h5)
    (k14 : (¬ x1 = 0) → (¬ x2 = 0) → (x3 = l3) → Z (some (.int 0)) h)
    (k15 : (¬ x1 = 0) → (x2 = 0) → Z (some (.int (-1))) h) :
    RR G nc ns m_X5_edge 0 [some (.ref l0), some (.int l1), some (.int l2), some (.int l3)] [] h Z := by
  refine r_aload_n dX5_edge_0 rfl ?_
  refine r_getR (c := 5) (k := 0) dX5_edge_1 rfl rfl (by decide) fl_RX5_14 (c1) rfl (c2) ?_
  refine r_iconst (v := 0) dX5_edge_4 (by decide) ?_
  refine r_iload_n dX5_edge_5 rfl ?_
  refine r_callV1 (c := 1) (mc := 0) (ms := 0) dX5_edge_6 ck_X1_holds iv_X1_holds sl_X1_holds lk_RX5_62 rfl rfl (c6) (by decide) (by decide) (As := [.int 0, .int l1]) rfl rfl (Nat.le_of_ble_eq_true rfl) (c4) (c5) (e3) ?_
  refine r_if_eq 24 dX5_edge_9 (by decide) (fun q1 => ?_) (fun q1 => ?_)
  · refine r_iconst (v := (-1)) dX5_edge_24 (by decide) ?_
    exact r_ireturn dX5_edge_25 rfl (k7 q1)
  · refine r_aload_n dX5_edge_12 rfl ?_
    refine r_getR (c := 5) (k := 0) dX5_edge_13 rfl rfl (by decide) fl_RX5_14 (c1) rfl (c2) ?_
    refine r_iconst (v := 1) dX5_edge_16 (by decide) ?_
    refine r_iload_n dX5_edge_17 rfl ?_
    refine r_callV1 (c := 1) (mc := 0) (ms := 0) dX5_edge_18 ck_X1_holds iv_X1_holds sl_X1_holds lk_RX5_62 rfl rfl (c6) (by decide) (by decide) (As := [.int 1, .int l2]) rfl rfl (Nat.le_of_ble_eq_true rfl) (c4) (c5) (e8 q1) ?_
    refine r_if_ne 26 dX5_edge_21 (by decide) (fun q2 => ?_) (fun q2 => ?_)
    · refine r_aload_n dX5_edge_26 rfl ?_
      refine r_getR (c := 5) (k := 0) dX5_edge_27 rfl rfl (by decide) fl_RX5_14 (c1) rfl (c2) ?_
      refine r_iload_n dX5_edge_30 rfl ?_
      refine r_iload_n dX5_edge_31 rfl ?_
      refine r_callV1 (c := 1) (mc := 0) (ms := 0) dX5_edge_32 ck_X1_joins iv_X1_joins sl_X1_joins lk_RX5_66 rfl rfl (c6) (by decide) (by decide) (As := [.int l1, .int l2]) rfl rfl (Nat.le_of_ble_eq_true rfl) (c4) (c5) (e9 q1 q2) ?_
      refine r_iload_n dX5_edge_35 rfl ?_
      refine r_icmp_ne 41 dX5_edge_36 (by decide) (fun q3 => ?_) (fun q3 => ?_)
      · refine r_iload_n dX5_edge_41 rfl ?_
        refine r_if_eq 61 dX5_edge_42 (by decide) (fun q4 => ?_) (fun q4 => ?_)
        · refine r_aload_n dX5_edge_61 rfl ?_
          refine r_getR (c := 5) (k := 0) dX5_edge_62 rfl rfl (by decide) fl_RX5_14 (c1) rfl (c2) ?_
          refine r_iload_n dX5_edge_65 rfl ?_
          refine r_iload_n dX5_edge_66 rfl ?_
          refine r_callV1 (c := 1) (mc := 0) (ms := 0) dX5_edge_67 ck_X1_unjoin iv_X1_unjoin sl_X1_unjoin lk_RX5_73 rfl rfl (c6) (by decide) (by decide) (As := [.int l1, .int l2]) rfl rfl (Nat.le_of_ble_eq_true rfl) (c4) (c5) (e10 q1 q2 q3 q4) ?_
          refine r_iconst (v := 1) dX5_edge_70 (by decide) ?_
          exact r_ireturn dX5_edge_71 rfl (k11 q1 q2 q3 q4)
        · refine r_aload_n dX5_edge_45 rfl ?_
          refine r_getR (c := 5) (k := 0) dX5_edge_46 rfl rfl (by decide) fl_RX5_14 (c1) rfl (c2) ?_
          refine r_lconst (v := 1) dX5_edge_49 (by decide) ?_
          refine r_iload_n dX5_edge_50 rfl ?_
          refine r_lshl dX5_edge_51 ?_
          refine r_lconst (v := 1) dX5_edge_52 (by decide) ?_
          refine r_iload_n dX5_edge_53 rfl ?_
          refine r_lshl dX5_edge_54 ?_
          refine r_callV1 (c := 1) (mc := 0) (ms := 0) dX5_edge_55 ck_X1_joinAll iv_X1_joinAll sl_X1_joinAll lk_RX5_69 rfl rfl (c6) (by decide) (by decide) (As := [.long (1 <<< (Int32.toInt64 l1 &&& 63)), .long (1 <<< (Int32.toInt64 l2 &&& 63))]) rfl rfl (Nat.le_of_ble_eq_true rfl) (c4) (c5) (e12 q1 q2 q3 q4) ?_
          refine r_goto (tgt := 70) dX5_edge_58 (by decide) ?_
          refine r_iconst (v := 1) dX5_edge_70 (by decide) ?_
          exact r_ireturn dX5_edge_71 rfl (k13 q1 q2 q3 q4)
      · refine r_iconst (v := 0) dX5_edge_39 (by decide) ?_
        exact r_ireturn dX5_edge_40 rfl (k14 q1 q2 q3)
    · refine r_iconst (v := (-1)) dX5_edge_24 (by decide) ?_
      exact r_ireturn dX5_edge_25 rfl (k15 q1 q2)

set_option maxRecDepth 20000 in
set_option maxHeartbeats 2000000 in
theorem s_X5_count_0 {G : GG} {nc ns : Nat} {h : PH} {Z : Option Value → PH → Prop} {l0 : Nat} {l1 : Int32} {h1 : PH} {h2 : PH} {x3 : Int32} {x4 : Int32} {x5 : Int32} {x6 : Int32} {h7 : PH} {h8 : PH} {x9 : Int32} {h10 : PH} {h11 : PH} {x12 : Int32} {h13 : PH} {h14 : PH} {x15 : Int32} {h16 : PH} {h17 : PH} {x18 : Int32} {h19 : PH} {h20 : PH} {x21 : Int32} {h22 : PH} {h23 : PH} {x24 : Int32} {x25 : Int32} {h26 : PH} {h27 : PH} {x28 : Int32} {x29 : Int32} {x30 : Int32} {h31 : PH} {h32 : PH} {x33 : Int32} {x34 : Int32} {x35 : Int32}
    (c1 : hK h l0 = 15)
    (c2 : (hR h l0 1) ≠ 0)
    (e3 : (l1 < 0 ∨ 11 < l1) → Ev G m_X3_refresh [.ref (hR h l0 1)] h 0 0 (Ret none h1))
    (c4 : (hN h) ≤ nc)
    (c5 : (hS h) ≤ ns)
    (c6 : hK h (hR h l0 1) = 13)
    (c7 : (l1 < 0 ∨ 11 < l1) → hK h1 l0 = 15)
    (c8 : (l1 < 0 ∨ 11 < l1) → (hR h1 l0 2) ≠ 0)
    (e9 : (l1 < 0 ∨ 11 < l1) → Ev G m_X0_refresh [.ref (hR h1 l0 2)] h1 0 0 (Ret none h2))
    (c10 : (l1 < 0 ∨ 11 < l1) → (hN h1) ≤ nc)
    (c11 : (l1 < 0 ∨ 11 < l1) → (hS h1) ≤ ns)
    (c12 : (l1 < 0 ∨ 11 < l1) → hK h1 (hR h1 l0 2) = 10)
    (e13 : (l1 < 0 ∨ 11 < l1) → Ev G m_X5_countFindings [.ref l0, .int l1] h2 0 0 (Ret (some (.int x3)) h2))
    (c14 : (l1 < 0 ∨ 11 < l1) → (hN h2) ≤ nc)
    (c15 : (l1 < 0 ∨ 11 < l1) → (hS h2) ≤ ns)
    (c16 : (l1 < 0 ∨ 11 < l1) → hK h2 l0 = 15)
    (k17 : (l1 < 0 ∨ 11 < l1) → Z (some (.int x3)) h2)
    (c18 : (hR h l0 0) ≠ 0)
    (e19 : (l1 = 0) → Ev G m_X1_sizeOf [.ref (hR h l0 0), .int 0] h 0 0 (Ret (some (.int x4)) h))
    (c20 : hK h (hR h l0 0) = 11)
    (k21 : (l1 = 0) → Z (some (.int x4)) h)
    (e22 : (l1 = 1) → Ev G m_X1_sizeOf [.ref (hR h l0 0), .int 1] h 0 0 (Ret (some (.int x5)) h))
    (k23 : (l1 = 1) → Z (some (.int x5)) h)
    (e24 : (l1 = 2) → Ev G m_X1_edges [.ref (hR h l0 0)] h 0 0 (Ret (some (.int x6)) h))
    (k25 : (l1 = 2) → Z (some (.int x6)) h)
    (e26 : (l1 = 3) → Ev G m_X3_refresh [.ref (hR h l0 1)] h 0 0 (Ret none h7))
    (c27 : (l1 = 3) → hK h7 l0 = 15)
    (c28 : (l1 = 3) → (hR h7 l0 2) ≠ 0)
    (e29 : (l1 = 3) → Ev G m_X0_refresh [.ref (hR h7 l0 2)] h7 0 0 (Ret none h8))
    (c30 : (l1 = 3) → (hN h7) ≤ nc)
    (c31 : (l1 = 3) → (hS h7) ≤ ns)
    (c32 : (l1 = 3) → hK h7 (hR h7 l0 2) = 10)
    (e33 : (l1 = 3) → Ev G m_X5_countFindings [.ref l0, .int l1] h8 0 0 (Ret (some (.int x9)) h8))
    (c34 : (l1 = 3) → (hN h8) ≤ nc)
    (c35 : (l1 = 3) → (hS h8) ≤ ns)
    (c36 : (l1 = 3) → hK h8 l0 = 15)
    (k37 : (l1 = 3) → Z (some (.int x9)) h8)
    (e38 : (l1 = 4) → Ev G m_X3_refresh [.ref (hR h l0 1)] h 0 0 (Ret none h10))
    (c39 : (l1 = 4) → hK h10 l0 = 15)
    (c40 : (l1 = 4) → (hR h10 l0 2) ≠ 0)
    (e41 : (l1 = 4) → Ev G m_X0_refresh [.ref (hR h10 l0 2)] h10 0 0 (Ret none h11))
    (c42 : (l1 = 4) → (hN h10) ≤ nc)
    (c43 : (l1 = 4) → (hS h10) ≤ ns)
    (c44 : (l1 = 4) → hK h10 (hR h10 l0 2) = 10)
    (e45 : (l1 = 4) → Ev G m_X5_countFindings [.ref l0, .int l1] h11 0 0 (Ret (some (.int x12)) h11))
    (c46 : (l1 = 4) → (hN h11) ≤ nc)
    (c47 : (l1 = 4) → (hS h11) ≤ ns)
    (c48 : (l1 = 4) → hK h11 l0 = 15)
    (k49 : (l1 = 4) → Z (some (.int x12)) h11)
    (e50 : (l1 = 5) → Ev G m_X3_refresh [.ref (hR h l0 1)] h 0 0 (Ret none h13))
    (c51 : (l1 = 5) → hK h13 l0 = 15)
    (c52 : (l1 = 5) → (hR h13 l0 2) ≠ 0)
    (e53 : (l1 = 5) → Ev G m_X0_refresh [.ref (hR h13 l0 2)] h13 0 0 (Ret none h14))
    (c54 : (l1 = 5) → (hN h13) ≤ nc)
    (c55 : (l1 = 5) → (hS h13) ≤ ns)
    (c56 : (l1 = 5) → hK h13 (hR h13 l0 2) = 10)
    (e57 : (l1 = 5) → Ev G m_X5_countFindings [.ref l0, .int l1] h14 0 0 (Ret (some (.int x15)) h14))
    (c58 : (l1 = 5) → (hN h14) ≤ nc)
    (c59 : (l1 = 5) → (hS h14) ≤ ns)
    (c60 : (l1 = 5) → hK h14 l0 = 15)
    (k61 : (l1 = 5) → Z (some (.int x15)) h14)
    (e62 : (l1 = 6) → Ev G m_X3_refresh [.ref (hR h l0 1)] h 0 0 (Ret none h16))
    (c63 : (l1 = 6) → hK h16 l0 = 15)
    (c64 : (l1 = 6) → (hR h16 l0 2) ≠ 0)
    (e65 : (l1 = 6) → Ev G m_X0_refresh [.ref (hR h16 l0 2)] h16 0 0 (Ret none h17))
    (c66 : (l1 = 6) → (hN h16) ≤ nc)
    (c67 : (l1 = 6) → (hS h16) ≤ ns)
    (c68 : (l1 = 6) → hK h16 (hR h16 l0 2) = 10)
    (e69 : (l1 = 6) → Ev G m_X5_countFindings [.ref l0, .int l1] h17 0 0 (Ret (some (.int x18)) h17))
    (c70 : (l1 = 6) → (hN h17) ≤ nc)
    (c71 : (l1 = 6) → (hS h17) ≤ ns)
    (c72 : (l1 = 6) → hK h17 l0 = 15)
    (k73 : (l1 = 6) → Z (some (.int x18)) h17)
    (e74 : (l1 = 7) → Ev G m_X3_refresh [.ref (hR h l0 1)] h 0 0 (Ret none h19))
    (c75 : (l1 = 7) → hK h19 l0 = 15)
    (c76 : (l1 = 7) → (hR h19 l0 2) ≠ 0)
    (e77 : (l1 = 7) → Ev G m_X0_refresh [.ref (hR h19 l0 2)] h19 0 0 (Ret none h20))
    (c78 : (l1 = 7) → (hN h19) ≤ nc)
    (c79 : (l1 = 7) → (hS h19) ≤ ns)
    (c80 : (l1 = 7) → hK h19 (hR h19 l0 2) = 10)
    (e81 : (l1 = 7) → Ev G m_X5_countFindings [.ref l0, .int l1] h20 0 0 (Ret (some (.int x21)) h20))
    (c82 : (l1 = 7) → (hN h20) ≤ nc)
    (c83 : (l1 = 7) → (hS h20) ≤ ns)
    (c84 : (l1 = 7) → hK h20 l0 = 15)
    (k85 : (l1 = 7) → Z (some (.int x21)) h20)
    (e86 : (l1 = 8) → Ev G m_X3_refresh [.ref (hR h l0 1)] h 0 0 (Ret none h22))
    (c87 : (l1 = 8) → hK h22 l0 = 15)
    (c88 : (l1 = 8) → (hR h22 l0 2) ≠ 0)
    (e89 : (l1 = 8) → Ev G m_X0_refresh [.ref (hR h22 l0 2)] h22 0 0 (Ret none h23))
    (c90 : (l1 = 8) → (hN h22) ≤ nc)
    (c91 : (l1 = 8) → (hS h22) ≤ ns)
    (c92 : (l1 = 8) → hK h22 (hR h22 l0 2) = 10)
    (e93 : (l1 = 8) → Ev G m_X5_countFindings [.ref l0, .int l1] h23 0 0 (Ret (some (.int x24)) h23))
    (c94 : (l1 = 8) → (hN h23) ≤ nc)
    (c95 : (l1 = 8) → (hS h23) ≤ ns)
    (c96 : (l1 = 8) → hK h23 l0 = 15)
    (k97 : (l1 = 8) → Z (some (.int x24)) h23)
    (c98 : (hR h l0 4) ≠ 0)
    (e99 : (l1 = 9) → Ev G m_X1_sizeOf [.ref (hR h l0 4), .int 0] h 0 0 (Ret (some (.int x25)) h))
    (c100 : hK h (hR h l0 4) = 11)
    (k101 : (l1 = 9) → Z (some (.int x25)) h)
    (c102 : (hR h l0 5) ≠ 0)
    (e103 : (l1 = 10) → Ev G m_X3_refresh [.ref (hR h l0 5)] h 0 0 (Ret none h26))
    (c104 : hK h (hR h l0 5) = 13)
    (c105 : (l1 = 10) → hK h26 l0 = 15)
    (c106 : (l1 = 10) → (hR h26 l0 6) ≠ 0)
    (e107 : (l1 = 10) → Ev G m_X2_refresh [.ref (hR h26 l0 6)] h26 0 0 (Ret none h27))
    (c108 : (l1 = 10) → (hN h26) ≤ nc)
    (c109 : (l1 = 10) → (hS h26) ≤ ns)
    (c110 : (l1 = 10) → hK h26 (hR h26 l0 6) = 12)
    (c111 : (l1 = 10) → (¬ l1 = 10) → hK h27 l0 = 15)
    (c112 : (l1 = 10) → (¬ l1 = 10) → (hR h27 l0 6) ≠ 0)
    (e113 : (l1 = 10) → (¬ l1 = 10) → Ev G m_X2_howManyLevels [.ref (hR h27 l0 6)] h27 0 0 (Ret (some (.int x28)) h27))
    (c114 : (l1 = 10) → (¬ l1 = 10) → (hN h27) ≤ nc)
    (c115 : (l1 = 10) → (¬ l1 = 10) → (hS h27) ≤ ns)
    (c116 : (l1 = 10) → (¬ l1 = 10) → hK h27 (hR h27 l0 6) = 12)
    (k117 : (l1 = 10) → (¬ l1 = 10) → Z (some (.int x28)) h27)
    (c118 : (l1 = 10) → (l1 = 10) → hK h27 l0 = 15)
    (c119 : (l1 = 10) → (l1 = 10) → (hR h27 l0 4) ≠ 0)
    (e120 : (l1 = 10) → (l1 = 10) → Ev G m_X1_sizeOf [.ref (hR h27 l0 4), .int 0] h27 0 0 (Ret (some (.int x29)) h27))
    (c121 : (l1 = 10) → (l1 = 10) → (hN h27) ≤ nc)
    (c122 : (l1 = 10) → (l1 = 10) → (hS h27) ≤ ns)
    (c123 : (l1 = 10) → (l1 = 10) → hK h27 (hR h27 l0 4) = 11)
    (c124 : (l1 = 10) → (l1 = 10) → hK h27 l0 = 15)
    (c125 : (l1 = 10) → (l1 = 10) → (hR h27 l0 5) ≠ 0)
    (e126 : (l1 = 10) → (l1 = 10) → Ev G m_X3_pairs [.ref (hR h27 l0 5)] h27 0 0 (Ret (some (.int x30)) h27))
    (c127 : (l1 = 10) → (l1 = 10) → (hN h27) ≤ nc)
    (c128 : (l1 = 10) → (l1 = 10) → (hS h27) ≤ ns)
    (c129 : (l1 = 10) → (l1 = 10) → hK h27 (hR h27 l0 5) = 13)
    (k130 : (l1 = 10) → (l1 = 10) → Z (some (.int (x29 - x30))) h27)
    (e131 : (l1 = 11) → Ev G m_X3_refresh [.ref (hR h l0 5)] h 0 0 (Ret none h31))
    (c132 : (l1 = 11) → hK h31 l0 = 15)
    (c133 : (l1 = 11) → (hR h31 l0 6) ≠ 0)
    (e134 : (l1 = 11) → Ev G m_X2_refresh [.ref (hR h31 l0 6)] h31 0 0 (Ret none h32))
    (c135 : (l1 = 11) → (hN h31) ≤ nc)
    (c136 : (l1 = 11) → (hS h31) ≤ ns)
    (c137 : (l1 = 11) → hK h31 (hR h31 l0 6) = 12)
    (c138 : (l1 = 11) → (¬ l1 = 10) → hK h32 l0 = 15)
    (c139 : (l1 = 11) → (¬ l1 = 10) → (hR h32 l0 6) ≠ 0)
    (e140 : (l1 = 11) → (¬ l1 = 10) → Ev G m_X2_howManyLevels [.ref (hR h32 l0 6)] h32 0 0 (Ret (some (.int x33)) h32))
    (c141 : (l1 = 11) → (¬ l1 = 10) → (hN h32) ≤ nc)
    (c142 : (l1 = 11) → (¬ l1 = 10) → (hS h32) ≤ ns)
    (c143 : (l1 = 11) → (¬ l1 = 10) → hK h32 (hR h32 l0 6) = 12)
    (k144 : (l1 = 11) → (¬ l1 = 10) → Z (some (.int x33)) h32)
    (c145 : (l1 = 11) → (l1 = 10) → hK h32 l0 = 15)
    (c146 : (l1 = 11) → (l1 = 10) → (hR h32 l0 4) ≠ 0)
    (e147 : (l1 = 11) → (l1 = 10) → Ev G m_X1_sizeOf [.ref (hR h32 l0 4), .int 0] h32 0 0 (Ret (some (.int x34)) h32))
    (c148 : (l1 = 11) → (l1 = 10) → (hN h32) ≤ nc)
    (c149 : (l1 = 11) → (l1 = 10) → (hS h32) ≤ ns)
    (c150 : (l1 = 11) → (l1 = 10) → hK h32 (hR h32 l0 4) = 11)
    (c151 : (l1 = 11) → (l1 = 10) → hK h32 l0 = 15)
    (c152 : (l1 = 11) → (l1 = 10) → (hR h32 l0 5) ≠ 0)
    (e153 : (l1 = 11) → (l1 = 10) → Ev G m_X3_pairs [.ref (hR h32 l0 5)] h32 0 0 (Ret (some (.int x35)) h32))
    (c154 : (l1 = 11) → (l1 = 10) → (hN h32) ≤ nc)
    (c155 : (l1 = 11) → (l1 = 10) → (hS h32) ≤ ns)
    (c156 : (l1 = 11) → (l1 = 10) → hK h32 (hR h32 l0 5) = 13)
    (k157 : (l1 = 11) → (l1 = 10) → Z (some (.int (x34 - x35))) h32) :
    RR G nc ns m_X5_count 0 [some (.ref l0), some (.int l1)] [] h Z := by
  refine r_iload_n dX5_count_0 rfl ?_
  by_cases q1 : l1 < 0 ∨ 11 < l1
  · refine r_tableOut (tgt := 146) dX5_count_1 (sw_out (by decide) (by decide) q1) (by decide) ?_
    refine r_aload_n dX5_count_146 rfl ?_
    refine r_getR (c := 5) (k := 1) dX5_count_147 rfl rfl (by decide) fl_RX5_23 (c1) rfl (c2) ?_
    refine r_callV1 (c := 3) (mc := 0) (ms := 0) dX5_count_150 ck_X3_refresh iv_X3_refresh sl_X3_refresh lk_RX5_84 rfl rfl (c6) (by decide) (by decide) (As := []) rfl rfl (Nat.le_of_ble_eq_true rfl) (c4) (c5) (e3 q1) ?_
    refine r_aload_n dX5_count_153 rfl ?_
    refine r_getR (c := 5) (k := 2) dX5_count_154 rfl rfl (by decide) fl_RX5_32 (c7 q1) rfl (c8 q1) ?_
    refine r_callV1 (c := 0) (mc := 0) (ms := 0) dX5_count_157 ck_X0_refresh iv_X0_refresh sl_X0_refresh lk_RX5_94 rfl rfl (c12 q1) (by decide) (by decide) (As := []) rfl rfl (Nat.le_of_ble_eq_true rfl) (c10 q1) (c11 q1) (e9 q1) ?_
    refine r_aload_n dX5_count_160 rfl ?_
    refine r_iload_n dX5_count_161 rfl ?_
    refine r_callV1 (c := 5) (mc := 0) (ms := 0) dX5_count_162 ck_X5_countFindings iv_X5_countFindings sl_X5_countFindings lk_RX5_95 rfl rfl (c16 q1) (by decide) (by decide) (As := [.int l1]) rfl rfl (Nat.le_of_ble_eq_true rfl) (c14 q1) (c15 q1) (e13 q1) ?_
    exact r_ireturn dX5_count_165 rfl (k17 q1)
  · rcases sw_in_0_11 q1 with q9 | q9 | q9 | q9 | q9 | q9 | q9 | q9 | q9 | q9 | q9 | q9
    · have q2 : l1 = 0 := q9
      refine r_tableIn (off := 63) (tgt := 64) dX5_count_1 (by rw [q2]; decide) (by rw [q2]; decide) (by rw [q2]; rfl) (by decide) ?_
      refine r_aload_n dX5_count_64 rfl ?_
      refine r_getR (c := 5) (k := 0) dX5_count_65 rfl rfl (by decide) fl_RX5_14 (c1) rfl (c18) ?_
      refine r_iconst (v := 0) dX5_count_68 (by decide) ?_
      refine r_callV1 (c := 1) (mc := 0) (ms := 0) dX5_count_69 ck_X1_sizeOf iv_X1_sizeOf sl_X1_sizeOf lk_RX5_77 rfl rfl (c20) (by decide) (by decide) (As := [.int 0]) rfl rfl (Nat.le_of_ble_eq_true rfl) (c4) (c5) (e19 q2) ?_
      exact r_ireturn dX5_count_72 rfl (k21 q2)
    · have q3 : l1 = 1 := q9
      refine r_tableIn (off := 72) (tgt := 73) dX5_count_1 (by rw [q3]; decide) (by rw [q3]; decide) (by rw [q3]; rfl) (by decide) ?_
      refine r_aload_n dX5_count_73 rfl ?_
      refine r_getR (c := 5) (k := 0) dX5_count_74 rfl rfl (by decide) fl_RX5_14 (c1) rfl (c18) ?_
      refine r_iconst (v := 1) dX5_count_77 (by decide) ?_
      refine r_callV1 (c := 1) (mc := 0) (ms := 0) dX5_count_78 ck_X1_sizeOf iv_X1_sizeOf sl_X1_sizeOf lk_RX5_77 rfl rfl (c20) (by decide) (by decide) (As := [.int 1]) rfl rfl (Nat.le_of_ble_eq_true rfl) (c4) (c5) (e22 q3) ?_
      exact r_ireturn dX5_count_81 rfl (k23 q3)
    · have q4 : l1 = 2 := q9
      refine r_tableIn (off := 81) (tgt := 82) dX5_count_1 (by rw [q4]; decide) (by rw [q4]; decide) (by rw [q4]; rfl) (by decide) ?_
      refine r_aload_n dX5_count_82 rfl ?_
      refine r_getR (c := 5) (k := 0) dX5_count_83 rfl rfl (by decide) fl_RX5_14 (c1) rfl (c18) ?_
      refine r_callV1 (c := 1) (mc := 0) (ms := 0) dX5_count_86 ck_X1_edges iv_X1_edges sl_X1_edges lk_RX5_80 rfl rfl (c20) (by decide) (by decide) (As := []) rfl rfl (Nat.le_of_ble_eq_true rfl) (c4) (c5) (e24 q4) ?_
      exact r_ireturn dX5_count_89 rfl (k25 q4)
    · have q5 : l1 = 3 := q9
      refine r_tableIn (off := 145) (tgt := 146) dX5_count_1 (by rw [q5]; decide) (by rw [q5]; decide) (by rw [q5]; rfl) (by decide) ?_
      refine r_aload_n dX5_count_146 rfl ?_
      refine r_getR (c := 5) (k := 1) dX5_count_147 rfl rfl (by decide) fl_RX5_23 (c1) rfl (c2) ?_
      refine r_callV1 (c := 3) (mc := 0) (ms := 0) dX5_count_150 ck_X3_refresh iv_X3_refresh sl_X3_refresh lk_RX5_84 rfl rfl (c6) (by decide) (by decide) (As := []) rfl rfl (Nat.le_of_ble_eq_true rfl) (c4) (c5) (e26 q5) ?_
      refine r_aload_n dX5_count_153 rfl ?_
      refine r_getR (c := 5) (k := 2) dX5_count_154 rfl rfl (by decide) fl_RX5_32 (c27 q5) rfl (c28 q5) ?_
      refine r_callV1 (c := 0) (mc := 0) (ms := 0) dX5_count_157 ck_X0_refresh iv_X0_refresh sl_X0_refresh lk_RX5_94 rfl rfl (c32 q5) (by decide) (by decide) (As := []) rfl rfl (Nat.le_of_ble_eq_true rfl) (c30 q5) (c31 q5) (e29 q5) ?_
      refine r_aload_n dX5_count_160 rfl ?_
      refine r_iload_n dX5_count_161 rfl ?_
      refine r_callV1 (c := 5) (mc := 0) (ms := 0) dX5_count_162 ck_X5_countFindings iv_X5_countFindings sl_X5_countFindings lk_RX5_95 rfl rfl (c36 q5) (by decide) (by decide) (As := [.int l1]) rfl rfl (Nat.le_of_ble_eq_true rfl) (c34 q5) (c35 q5) (e33 q5) ?_
      exact r_ireturn dX5_count_165 rfl (k37 q5)
    · have q6 : l1 = 4 := q9
      refine r_tableIn (off := 145) (tgt := 146) dX5_count_1 (by rw [q6]; decide) (by rw [q6]; decide) (by rw [q6]; rfl) (by decide) ?_
      refine r_aload_n dX5_count_146 rfl ?_
      refine r_getR (c := 5) (k := 1) dX5_count_147 rfl rfl (by decide) fl_RX5_23 (c1) rfl (c2) ?_
      refine r_callV1 (c := 3) (mc := 0) (ms := 0) dX5_count_150 ck_X3_refresh iv_X3_refresh sl_X3_refresh lk_RX5_84 rfl rfl (c6) (by decide) (by decide) (As := []) rfl rfl (Nat.le_of_ble_eq_true rfl) (c4) (c5) (e38 q6) ?_
      refine r_aload_n dX5_count_153 rfl ?_
      refine r_getR (c := 5) (k := 2) dX5_count_154 rfl rfl (by decide) fl_RX5_32 (c39 q6) rfl (c40 q6) ?_
      refine r_callV1 (c := 0) (mc := 0) (ms := 0) dX5_count_157 ck_X0_refresh iv_X0_refresh sl_X0_refresh lk_RX5_94 rfl rfl (c44 q6) (by decide) (by decide) (As := []) rfl rfl (Nat.le_of_ble_eq_true rfl) (c42 q6) (c43 q6) (e41 q6) ?_
      refine r_aload_n dX5_count_160 rfl ?_
      refine r_iload_n dX5_count_161 rfl ?_
      refine r_callV1 (c := 5) (mc := 0) (ms := 0) dX5_count_162 ck_X5_countFindings iv_X5_countFindings sl_X5_countFindings lk_RX5_95 rfl rfl (c48 q6) (by decide) (by decide) (As := [.int l1]) rfl rfl (Nat.le_of_ble_eq_true rfl) (c46 q6) (c47 q6) (e45 q6) ?_
      exact r_ireturn dX5_count_165 rfl (k49 q6)
    · have q7 : l1 = 5 := q9
      refine r_tableIn (off := 145) (tgt := 146) dX5_count_1 (by rw [q7]; decide) (by rw [q7]; decide) (by rw [q7]; rfl) (by decide) ?_
      refine r_aload_n dX5_count_146 rfl ?_
      refine r_getR (c := 5) (k := 1) dX5_count_147 rfl rfl (by decide) fl_RX5_23 (c1) rfl (c2) ?_
      refine r_callV1 (c := 3) (mc := 0) (ms := 0) dX5_count_150 ck_X3_refresh iv_X3_refresh sl_X3_refresh lk_RX5_84 rfl rfl (c6) (by decide) (by decide) (As := []) rfl rfl (Nat.le_of_ble_eq_true rfl) (c4) (c5) (e50 q7) ?_
      refine r_aload_n dX5_count_153 rfl ?_
      refine r_getR (c := 5) (k := 2) dX5_count_154 rfl rfl (by decide) fl_RX5_32 (c51 q7) rfl (c52 q7) ?_
      refine r_callV1 (c := 0) (mc := 0) (ms := 0) dX5_count_157 ck_X0_refresh iv_X0_refresh sl_X0_refresh lk_RX5_94 rfl rfl (c56 q7) (by decide) (by decide) (As := []) rfl rfl (Nat.le_of_ble_eq_true rfl) (c54 q7) (c55 q7) (e53 q7) ?_
      refine r_aload_n dX5_count_160 rfl ?_
      refine r_iload_n dX5_count_161 rfl ?_
      refine r_callV1 (c := 5) (mc := 0) (ms := 0) dX5_count_162 ck_X5_countFindings iv_X5_countFindings sl_X5_countFindings lk_RX5_95 rfl rfl (c60 q7) (by decide) (by decide) (As := [.int l1]) rfl rfl (Nat.le_of_ble_eq_true rfl) (c58 q7) (c59 q7) (e57 q7) ?_
      exact r_ireturn dX5_count_165 rfl (k61 q7)
    · have q8 : l1 = 6 := q9
      refine r_tableIn (off := 145) (tgt := 146) dX5_count_1 (by rw [q8]; decide) (by rw [q8]; decide) (by rw [q8]; rfl) (by decide) ?_
      refine r_aload_n dX5_count_146 rfl ?_
      refine r_getR (c := 5) (k := 1) dX5_count_147 rfl rfl (by decide) fl_RX5_23 (c1) rfl (c2) ?_
      refine r_callV1 (c := 3) (mc := 0) (ms := 0) dX5_count_150 ck_X3_refresh iv_X3_refresh sl_X3_refresh lk_RX5_84 rfl rfl (c6) (by decide) (by decide) (As := []) rfl rfl (Nat.le_of_ble_eq_true rfl) (c4) (c5) (e62 q8) ?_
      refine r_aload_n dX5_count_153 rfl ?_
      refine r_getR (c := 5) (k := 2) dX5_count_154 rfl rfl (by decide) fl_RX5_32 (c63 q8) rfl (c64 q8) ?_
      refine r_callV1 (c := 0) (mc := 0) (ms := 0) dX5_count_157 ck_X0_refresh iv_X0_refresh sl_X0_refresh lk_RX5_94 rfl rfl (c68 q8) (by decide) (by decide) (As := []) rfl rfl (Nat.le_of_ble_eq_true rfl) (c66 q8) (c67 q8) (e65 q8) ?_
      refine r_aload_n dX5_count_160 rfl ?_
      refine r_iload_n dX5_count_161 rfl ?_
      refine r_callV1 (c := 5) (mc := 0) (ms := 0) dX5_count_162 ck_X5_countFindings iv_X5_countFindings sl_X5_countFindings lk_RX5_95 rfl rfl (c72 q8) (by decide) (by decide) (As := [.int l1]) rfl rfl (Nat.le_of_ble_eq_true rfl) (c70 q8) (c71 q8) (e69 q8) ?_
      exact r_ireturn dX5_count_165 rfl (k73 q8)
    · have q9 : l1 = 7 := q9
      refine r_tableIn (off := 145) (tgt := 146) dX5_count_1 (by rw [q9]; decide) (by rw [q9]; decide) (by rw [q9]; rfl) (by decide) ?_
      refine r_aload_n dX5_count_146 rfl ?_
      refine r_getR (c := 5) (k := 1) dX5_count_147 rfl rfl (by decide) fl_RX5_23 (c1) rfl (c2) ?_
      refine r_callV1 (c := 3) (mc := 0) (ms := 0) dX5_count_150 ck_X3_refresh iv_X3_refresh sl_X3_refresh lk_RX5_84 rfl rfl (c6) (by decide) (by decide) (As := []) rfl rfl (Nat.le_of_ble_eq_true rfl) (c4) (c5) (e74 q9) ?_
      refine r_aload_n dX5_count_153 rfl ?_
      refine r_getR (c := 5) (k := 2) dX5_count_154 rfl rfl (by decide) fl_RX5_32 (c75 q9) rfl (c76 q9) ?_
      refine r_callV1 (c := 0) (mc := 0) (ms := 0) dX5_count_157 ck_X0_refresh iv_X0_refresh sl_X0_refresh lk_RX5_94 rfl rfl (c80 q9) (by decide) (by decide) (As := []) rfl rfl (Nat.le_of_ble_eq_true rfl) (c78 q9) (c79 q9) (e77 q9) ?_
      refine r_aload_n dX5_count_160 rfl ?_
      refine r_iload_n dX5_count_161 rfl ?_
      refine r_callV1 (c := 5) (mc := 0) (ms := 0) dX5_count_162 ck_X5_countFindings iv_X5_countFindings sl_X5_countFindings lk_RX5_95 rfl rfl (c84 q9) (by decide) (by decide) (As := [.int l1]) rfl rfl (Nat.le_of_ble_eq_true rfl) (c82 q9) (c83 q9) (e81 q9) ?_
      exact r_ireturn dX5_count_165 rfl (k85 q9)
    · have q10 : l1 = 8 := q9
      refine r_tableIn (off := 145) (tgt := 146) dX5_count_1 (by rw [q10]; decide) (by rw [q10]; decide) (by rw [q10]; rfl) (by decide) ?_
      refine r_aload_n dX5_count_146 rfl ?_
      refine r_getR (c := 5) (k := 1) dX5_count_147 rfl rfl (by decide) fl_RX5_23 (c1) rfl (c2) ?_
      refine r_callV1 (c := 3) (mc := 0) (ms := 0) dX5_count_150 ck_X3_refresh iv_X3_refresh sl_X3_refresh lk_RX5_84 rfl rfl (c6) (by decide) (by decide) (As := []) rfl rfl (Nat.le_of_ble_eq_true rfl) (c4) (c5) (e86 q10) ?_
      refine r_aload_n dX5_count_153 rfl ?_
      refine r_getR (c := 5) (k := 2) dX5_count_154 rfl rfl (by decide) fl_RX5_32 (c87 q10) rfl (c88 q10) ?_
      refine r_callV1 (c := 0) (mc := 0) (ms := 0) dX5_count_157 ck_X0_refresh iv_X0_refresh sl_X0_refresh lk_RX5_94 rfl rfl (c92 q10) (by decide) (by decide) (As := []) rfl rfl (Nat.le_of_ble_eq_true rfl) (c90 q10) (c91 q10) (e89 q10) ?_
      refine r_aload_n dX5_count_160 rfl ?_
      refine r_iload_n dX5_count_161 rfl ?_
      refine r_callV1 (c := 5) (mc := 0) (ms := 0) dX5_count_162 ck_X5_countFindings iv_X5_countFindings sl_X5_countFindings lk_RX5_95 rfl rfl (c96 q10) (by decide) (by decide) (As := [.int l1]) rfl rfl (Nat.le_of_ble_eq_true rfl) (c94 q10) (c95 q10) (e93 q10) ?_
      exact r_ireturn dX5_count_165 rfl (k97 q10)
    · have q11 : l1 = 9 := q9
      refine r_tableIn (off := 89) (tgt := 90) dX5_count_1 (by rw [q11]; decide) (by rw [q11]; decide) (by rw [q11]; rfl) (by decide) ?_
      refine r_aload_n dX5_count_90 rfl ?_
      refine r_getR (c := 5) (k := 4) dX5_count_91 rfl rfl (by decide) fl_RX5_45 (c1) rfl (c98) ?_
      refine r_iconst (v := 0) dX5_count_94 (by decide) ?_
      refine r_callV1 (c := 1) (mc := 0) (ms := 0) dX5_count_95 ck_X1_sizeOf iv_X1_sizeOf sl_X1_sizeOf lk_RX5_77 rfl rfl (c100) (by decide) (by decide) (As := [.int 0]) rfl rfl (Nat.le_of_ble_eq_true rfl) (c4) (c5) (e99 q11) ?_
      exact r_ireturn dX5_count_98 rfl (k101 q11)
    · have q12 : l1 = 10 := q9
      refine r_tableIn (off := 98) (tgt := 99) dX5_count_1 (by rw [q12]; decide) (by rw [q12]; decide) (by rw [q12]; rfl) (by decide) ?_
      refine r_aload_n dX5_count_99 rfl ?_
      refine r_getR (c := 5) (k := 5) dX5_count_100 rfl rfl (by decide) fl_RX5_48 (c1) rfl (c102) ?_
      refine r_callV1 (c := 3) (mc := 0) (ms := 0) dX5_count_103 ck_X3_refresh iv_X3_refresh sl_X3_refresh lk_RX5_84 rfl rfl (c104) (by decide) (by decide) (As := []) rfl rfl (Nat.le_of_ble_eq_true rfl) (c4) (c5) (e103 q12) ?_
      refine r_aload_n dX5_count_106 rfl ?_
      refine r_getR (c := 5) (k := 6) dX5_count_107 rfl rfl (by decide) fl_RX5_54 (c105 q12) rfl (c106 q12) ?_
      refine r_callV1 (c := 2) (mc := 0) (ms := 0) dX5_count_110 ck_X2_refresh iv_X2_refresh sl_X2_refresh lk_RX5_87 rfl rfl (c110 q12) (by decide) (by decide) (As := []) rfl rfl (Nat.le_of_ble_eq_true rfl) (c108 q12) (c109 q12) (e107 q12) ?_
      refine r_iload_n dX5_count_113 rfl ?_
      refine r_bipush (v := 10) dX5_count_114 (by decide) ?_
      refine r_icmp_ne 138 dX5_count_116 (by decide) (fun q13 => ?_) (fun q13 => ?_)
      · refine r_aload_n dX5_count_138 rfl ?_
        refine r_getR (c := 5) (k := 6) dX5_count_139 rfl rfl (by decide) fl_RX5_54 (c111 q12 q13) rfl (c112 q12 q13) ?_
        refine r_callV1 (c := 2) (mc := 0) (ms := 0) dX5_count_142 ck_X2_howManyLevels iv_X2_howManyLevels sl_X2_howManyLevels lk_RX5_91 rfl rfl (c116 q12 q13) (by decide) (by decide) (As := []) rfl rfl (Nat.le_of_ble_eq_true rfl) (c114 q12 q13) (c115 q12 q13) (e113 q12 q13) ?_
        exact r_ireturn dX5_count_145 rfl (k117 q12 q13)
      · refine r_aload_n dX5_count_119 rfl ?_
        refine r_getR (c := 5) (k := 4) dX5_count_120 rfl rfl (by decide) fl_RX5_45 (c118 q12 q13) rfl (c119 q12 q13) ?_
        refine r_iconst (v := 0) dX5_count_123 (by decide) ?_
        refine r_callV1 (c := 1) (mc := 0) (ms := 0) dX5_count_124 ck_X1_sizeOf iv_X1_sizeOf sl_X1_sizeOf lk_RX5_77 rfl rfl (c123 q12 q13) (by decide) (by decide) (As := [.int 0]) rfl rfl (Nat.le_of_ble_eq_true rfl) (c121 q12 q13) (c122 q12 q13) (e120 q12 q13) ?_
        refine r_aload_n dX5_count_127 rfl ?_
        refine r_getR (c := 5) (k := 5) dX5_count_128 rfl rfl (by decide) fl_RX5_48 (c124 q12 q13) rfl (c125 q12 q13) ?_
        refine r_callV1 (c := 3) (mc := 0) (ms := 0) dX5_count_131 ck_X3_pairs iv_X3_pairs sl_X3_pairs lk_RX5_88 rfl rfl (c129 q12 q13) (by decide) (by decide) (As := []) rfl rfl (Nat.le_of_ble_eq_true rfl) (c127 q12 q13) (c128 q12 q13) (e126 q12 q13) ?_
        refine r_isub dX5_count_134 ?_
        refine r_goto (tgt := 145) dX5_count_135 (by decide) ?_
        exact r_ireturn dX5_count_145 rfl (k130 q12 q13)
    · have q14 : l1 = 11 := q9
      refine r_tableIn (off := 98) (tgt := 99) dX5_count_1 (by rw [q14]; decide) (by rw [q14]; decide) (by rw [q14]; rfl) (by decide) ?_
      refine r_aload_n dX5_count_99 rfl ?_
      refine r_getR (c := 5) (k := 5) dX5_count_100 rfl rfl (by decide) fl_RX5_48 (c1) rfl (c102) ?_
      refine r_callV1 (c := 3) (mc := 0) (ms := 0) dX5_count_103 ck_X3_refresh iv_X3_refresh sl_X3_refresh lk_RX5_84 rfl rfl (c104) (by decide) (by decide) (As := []) rfl rfl (Nat.le_of_ble_eq_true rfl) (c4) (c5) (e131 q14) ?_
      refine r_aload_n dX5_count_106 rfl ?_
      refine r_getR (c := 5) (k := 6) dX5_count_107 rfl rfl (by decide) fl_RX5_54 (c132 q14) rfl (c133 q14) ?_
      refine r_callV1 (c := 2) (mc := 0) (ms := 0) dX5_count_110 ck_X2_refresh iv_X2_refresh sl_X2_refresh lk_RX5_87 rfl rfl (c137 q14) (by decide) (by decide) (As := []) rfl rfl (Nat.le_of_ble_eq_true rfl) (c135 q14) (c136 q14) (e134 q14) ?_
      refine r_iload_n dX5_count_113 rfl ?_
      refine r_bipush (v := 10) dX5_count_114 (by decide) ?_
      refine r_icmp_ne 138 dX5_count_116 (by decide) (fun q15 => ?_) (fun q15 => ?_)
      · refine r_aload_n dX5_count_138 rfl ?_
        refine r_getR (c := 5) (k := 6) dX5_count_139 rfl rfl (by decide) fl_RX5_54 (c138 q14 q15) rfl (c139 q14 q15) ?_
        refine r_callV1 (c := 2) (mc := 0) (ms := 0) dX5_count_142 ck_X2_howManyLevels iv_X2_howManyLevels sl_X2_howManyLevels lk_RX5_91 rfl rfl (c143 q14 q15) (by decide) (by decide) (As := []) rfl rfl (Nat.le_of_ble_eq_true rfl) (c141 q14 q15) (c142 q14 q15) (e140 q14 q15) ?_
        exact r_ireturn dX5_count_145 rfl (k144 q14 q15)
      · refine r_aload_n dX5_count_119 rfl ?_
        refine r_getR (c := 5) (k := 4) dX5_count_120 rfl rfl (by decide) fl_RX5_45 (c145 q14 q15) rfl (c146 q14 q15) ?_
        refine r_iconst (v := 0) dX5_count_123 (by decide) ?_
        refine r_callV1 (c := 1) (mc := 0) (ms := 0) dX5_count_124 ck_X1_sizeOf iv_X1_sizeOf sl_X1_sizeOf lk_RX5_77 rfl rfl (c150 q14 q15) (by decide) (by decide) (As := [.int 0]) rfl rfl (Nat.le_of_ble_eq_true rfl) (c148 q14 q15) (c149 q14 q15) (e147 q14 q15) ?_
        refine r_aload_n dX5_count_127 rfl ?_
        refine r_getR (c := 5) (k := 5) dX5_count_128 rfl rfl (by decide) fl_RX5_48 (c151 q14 q15) rfl (c152 q14 q15) ?_
        refine r_callV1 (c := 3) (mc := 0) (ms := 0) dX5_count_131 ck_X3_pairs iv_X3_pairs sl_X3_pairs lk_RX5_88 rfl rfl (c156 q14 q15) (by decide) (by decide) (As := []) rfl rfl (Nat.le_of_ble_eq_true rfl) (c154 q14 q15) (c155 q14 q15) (e153 q14 q15) ?_
        refine r_isub dX5_count_134 ?_
        refine r_goto (tgt := 145) dX5_count_135 (by decide) ?_
        exact r_ireturn dX5_count_145 rfl (k157 q14 q15)

set_option maxRecDepth 20000 in
set_option maxHeartbeats 2000000 in
theorem s_X5_countFindings_0 {G : GG} {nc ns : Nat} {h : PH} {Z : Option Value → PH → Prop} {l0 : Nat} {l1 : Int32} {x1 : Int32} {x2 : Int32} {x3 : Int32} {x4 : Int32} {x5 : Int32} {x6 : Int32} {x7 : Int32}
    (k1 : (l1 < 3 ∨ 8 < l1) → Z (some (.int (-1))) h)
    (c2 : hK h l0 = 15)
    (c3 : (hR h l0 1) ≠ 0)
    (e4 : (l1 = 3) → Ev G m_X3_pairs [.ref (hR h l0 1)] h 0 0 (Ret (some (.int x1)) h))
    (c5 : (hN h) ≤ nc)
    (c6 : (hS h) ≤ ns)
    (c7 : hK h (hR h l0 1) = 13)
    (k8 : (l1 = 3) → Z (some (.int x1)) h)
    (c9 : (hR h l0 0) ≠ 0)
    (e10 : (l1 = 4) → Ev G m_X1_sizeOf [.ref (hR h l0 0), .int 0] h 0 0 (Ret (some (.int x2)) h))
    (c11 : hK h (hR h l0 0) = 11)
    (e12 : (l1 = 4) → Ev G m_X3_pairs [.ref (hR h l0 1)] h 0 0 (Ret (some (.int x3)) h))
    (k13 : (l1 = 4) → Z (some (.int (x2 - x3))) h)
    (e14 : (l1 = 5) → Ev G m_X3_nodesInPart [.ref (hR h l0 1), .int (l1 - 5)] h 0 0 (Ret (some (.int x4)) h))
    (k15 : (l1 = 5) → Z (some (.int x4)) h)
    (e16 : (l1 = 6) → Ev G m_X3_nodesInPart [.ref (hR h l0 1), .int (l1 - 5)] h 0 0 (Ret (some (.int x5)) h))
    (k17 : (l1 = 6) → Z (some (.int x5)) h)
    (e18 : (l1 = 7) → Ev G m_X3_nodesInPart [.ref (hR h l0 1), .int (l1 - 5)] h 0 0 (Ret (some (.int x6)) h))
    (k19 : (l1 = 7) → Z (some (.int x6)) h)
    (c20 : (hR h l0 2) ≠ 0)
    (e21 : (l1 = 8) → Ev G m_X0_howMany [.ref (hR h l0 2)] h 0 0 (Ret (some (.int x7)) h))
    (c22 : hK h (hR h l0 2) = 10)
    (k23 : (l1 = 8) → Z (some (.int x7)) h) :
    RR G nc ns m_X5_countFindings 0 [some (.ref l0), some (.int l1)] [] h Z := by
  refine r_iload_n dX5_countFindings_0 rfl ?_
  by_cases q1 : l1 < 3 ∨ 8 < l1
  · refine r_tableOut (tgt := 84) dX5_countFindings_1 (sw_out (by decide) (by decide) q1) (by decide) ?_
    refine r_iconst (v := (-1)) dX5_countFindings_84 (by decide) ?_
    exact r_ireturn dX5_countFindings_85 rfl (k1 q1)
  · rcases sw_in_3_8 q1 with q9 | q9 | q9 | q9 | q9 | q9
    · have q2 : l1 = 3 := q9
      refine r_tableIn (off := 39) (tgt := 40) dX5_countFindings_1 (by rw [q2]; decide) (by rw [q2]; decide) (by rw [q2]; rfl) (by decide) ?_
      refine r_aload_n dX5_countFindings_40 rfl ?_
      refine r_getR (c := 5) (k := 1) dX5_countFindings_41 rfl rfl (by decide) fl_RX5_23 (c2) rfl (c3) ?_
      refine r_callV1 (c := 3) (mc := 0) (ms := 0) dX5_countFindings_44 ck_X3_pairs iv_X3_pairs sl_X3_pairs lk_RX5_88 rfl rfl (c7) (by decide) (by decide) (As := []) rfl rfl (Nat.le_of_ble_eq_true rfl) (c5) (c6) (e4 q2) ?_
      exact r_ireturn dX5_countFindings_47 rfl (k8 q2)
    · have q3 : l1 = 4 := q9
      refine r_tableIn (off := 47) (tgt := 48) dX5_countFindings_1 (by rw [q3]; decide) (by rw [q3]; decide) (by rw [q3]; rfl) (by decide) ?_
      refine r_aload_n dX5_countFindings_48 rfl ?_
      refine r_getR (c := 5) (k := 0) dX5_countFindings_49 rfl rfl (by decide) fl_RX5_14 (c2) rfl (c9) ?_
      refine r_iconst (v := 0) dX5_countFindings_52 (by decide) ?_
      refine r_callV1 (c := 1) (mc := 0) (ms := 0) dX5_countFindings_53 ck_X1_sizeOf iv_X1_sizeOf sl_X1_sizeOf lk_RX5_77 rfl rfl (c11) (by decide) (by decide) (As := [.int 0]) rfl rfl (Nat.le_of_ble_eq_true rfl) (c5) (c6) (e10 q3) ?_
      refine r_aload_n dX5_countFindings_56 rfl ?_
      refine r_getR (c := 5) (k := 1) dX5_countFindings_57 rfl rfl (by decide) fl_RX5_23 (c2) rfl (c3) ?_
      refine r_callV1 (c := 3) (mc := 0) (ms := 0) dX5_countFindings_60 ck_X3_pairs iv_X3_pairs sl_X3_pairs lk_RX5_88 rfl rfl (c7) (by decide) (by decide) (As := []) rfl rfl (Nat.le_of_ble_eq_true rfl) (c5) (c6) (e12 q3) ?_
      refine r_isub dX5_countFindings_63 ?_
      exact r_ireturn dX5_countFindings_64 rfl (k13 q3)
    · have q4 : l1 = 5 := q9
      refine r_tableIn (off := 64) (tgt := 65) dX5_countFindings_1 (by rw [q4]; decide) (by rw [q4]; decide) (by rw [q4]; rfl) (by decide) ?_
      refine r_aload_n dX5_countFindings_65 rfl ?_
      refine r_getR (c := 5) (k := 1) dX5_countFindings_66 rfl rfl (by decide) fl_RX5_23 (c2) rfl (c3) ?_
      refine r_iload_n dX5_countFindings_69 rfl ?_
      refine r_iconst (v := 5) dX5_countFindings_70 (by decide) ?_
      refine r_isub dX5_countFindings_71 ?_
      refine r_callV1 (c := 3) (mc := 0) (ms := 0) dX5_countFindings_72 ck_X3_nodesInPart iv_X3_nodesInPart sl_X3_nodesInPart lk_RX5_98 rfl rfl (c7) (by decide) (by decide) (As := [.int (l1 - 5)]) rfl rfl (Nat.le_of_ble_eq_true rfl) (c5) (c6) (e14 q4) ?_
      exact r_ireturn dX5_countFindings_75 rfl (k15 q4)
    · have q5 : l1 = 6 := q9
      refine r_tableIn (off := 64) (tgt := 65) dX5_countFindings_1 (by rw [q5]; decide) (by rw [q5]; decide) (by rw [q5]; rfl) (by decide) ?_
      refine r_aload_n dX5_countFindings_65 rfl ?_
      refine r_getR (c := 5) (k := 1) dX5_countFindings_66 rfl rfl (by decide) fl_RX5_23 (c2) rfl (c3) ?_
      refine r_iload_n dX5_countFindings_69 rfl ?_
      refine r_iconst (v := 5) dX5_countFindings_70 (by decide) ?_
      refine r_isub dX5_countFindings_71 ?_
      refine r_callV1 (c := 3) (mc := 0) (ms := 0) dX5_countFindings_72 ck_X3_nodesInPart iv_X3_nodesInPart sl_X3_nodesInPart lk_RX5_98 rfl rfl (c7) (by decide) (by decide) (As := [.int (l1 - 5)]) rfl rfl (Nat.le_of_ble_eq_true rfl) (c5) (c6) (e16 q5) ?_
      exact r_ireturn dX5_countFindings_75 rfl (k17 q5)
    · have q6 : l1 = 7 := q9
      refine r_tableIn (off := 64) (tgt := 65) dX5_countFindings_1 (by rw [q6]; decide) (by rw [q6]; decide) (by rw [q6]; rfl) (by decide) ?_
      refine r_aload_n dX5_countFindings_65 rfl ?_
      refine r_getR (c := 5) (k := 1) dX5_countFindings_66 rfl rfl (by decide) fl_RX5_23 (c2) rfl (c3) ?_
      refine r_iload_n dX5_countFindings_69 rfl ?_
      refine r_iconst (v := 5) dX5_countFindings_70 (by decide) ?_
      refine r_isub dX5_countFindings_71 ?_
      refine r_callV1 (c := 3) (mc := 0) (ms := 0) dX5_countFindings_72 ck_X3_nodesInPart iv_X3_nodesInPart sl_X3_nodesInPart lk_RX5_98 rfl rfl (c7) (by decide) (by decide) (As := [.int (l1 - 5)]) rfl rfl (Nat.le_of_ble_eq_true rfl) (c5) (c6) (e18 q6) ?_
      exact r_ireturn dX5_countFindings_75 rfl (k19 q6)
    · have q7 : l1 = 8 := q9
      refine r_tableIn (off := 75) (tgt := 76) dX5_countFindings_1 (by rw [q7]; decide) (by rw [q7]; decide) (by rw [q7]; rfl) (by decide) ?_
      refine r_aload_n dX5_countFindings_76 rfl ?_
      refine r_getR (c := 5) (k := 2) dX5_countFindings_77 rfl rfl (by decide) fl_RX5_32 (c2) rfl (c20) ?_
      refine r_callV1 (c := 0) (mc := 0) (ms := 0) dX5_countFindings_80 ck_X0_howMany iv_X0_howMany sl_X0_howMany lk_RX5_101 rfl rfl (c22) (by decide) (by decide) (As := []) rfl rfl (Nat.le_of_ble_eq_true rfl) (c5) (c6) (e21 q7) ?_
      exact r_ireturn dX5_countFindings_83 rfl (k23 q7)

set_option maxRecDepth 20000 in
set_option maxHeartbeats 2000000 in
theorem s_X5_has_0 {G : GG} {nc ns : Nat} {h : PH} {Z : Option Value → PH → Prop} {l0 : Nat} {l1 : Int32} {l2 : Int32} {x1 : Int32}
    (c1 : hK h l0 = 15)
    (c2 : (hR h l0 0) ≠ 0)
    (e3 : Ev G m_X1_joins [.ref (hR h l0 0), .int l1, .int l2] h 0 0 (Ret (some (.int x1)) h))
    (c4 : (hN h) ≤ nc)
    (c5 : (hS h) ≤ ns)
    (c6 : hK h (hR h l0 0) = 11)
    (k7 : Z (some (.int x1)) h)
    (c8 : (x1 = 0 ∨ x1 = 1)) :
    RR G nc ns m_X5_has 0 [some (.ref l0), some (.int l1), some (.int l2)] [] h Z := by
  refine r_aload_n dX5_has_0 rfl ?_
  refine r_getR (c := 5) (k := 0) dX5_has_1 rfl rfl (by decide) fl_RX5_14 (c1) rfl (c2) ?_
  refine r_iload_n dX5_has_4 rfl ?_
  refine r_iload_n dX5_has_5 rfl ?_
  refine r_callV1 (c := 1) (mc := 0) (ms := 0) dX5_has_6 ck_X1_joins iv_X1_joins sl_X1_joins lk_RX5_66 rfl rfl (c6) (by decide) (by decide) (As := [.int l1, .int l2]) rfl rfl (Nat.le_of_ble_eq_true rfl) (c4) (c5) (e3) ?_
  exact r_zreturn dX5_has_9 rfl (c8) (k7)

set_option maxRecDepth 20000 in
set_option maxHeartbeats 2000000 in
theorem s_X5_partner_0 {G : GG} {nc ns : Nat} {h : PH} {Z : Option Value → PH → Prop} {l0 : Nat} {l1 : Int32} {l2 : Int32} {x1 : Int32} {h2 : PH} {x3 : Int32}
    (c1 : hK h l0 = 15)
    (c2 : (hR h l0 0) ≠ 0)
    (e3 : Ev G m_X1_holds [.ref (hR h l0 0), .int l1, .int l2] h 0 0 (Ret (some (.int x1)) h))
    (c4 : (hN h) ≤ nc)
    (c5 : (hS h) ≤ ns)
    (c6 : hK h (hR h l0 0) = 11)
    (c7 : (hR h l0 1) ≠ 0)
    (e8 : (¬ x1 = 0) → Ev G m_X3_refresh [.ref (hR h l0 1)] h 0 0 (Ret none h2))
    (c9 : hK h (hR h l0 1) = 13)
    (c10 : (¬ x1 = 0) → hK h2 l0 = 15)
    (c11 : (¬ x1 = 0) → (hR h2 l0 1) ≠ 0)
    (e12 : (¬ x1 = 0) → Ev G m_X3_mateOf [.ref (hR h2 l0 1), .int l1, .int l2] h2 0 0 (Ret (some (.int x3)) h2))
    (c13 : (¬ x1 = 0) → (hN h2) ≤ nc)
    (c14 : (¬ x1 = 0) → (hS h2) ≤ ns)
    (c15 : (¬ x1 = 0) → hK h2 (hR h2 l0 1) = 13)
    (k16 : (¬ x1 = 0) → Z (some (.int x3)) h2)
    (k17 : (x1 = 0) → Z (some (.int (-1))) h) :
    RR G nc ns m_X5_partner 0 [some (.ref l0), some (.int l1), some (.int l2)] [] h Z := by
  refine r_aload_n dX5_partner_0 rfl ?_
  refine r_getR (c := 5) (k := 0) dX5_partner_1 rfl rfl (by decide) fl_RX5_14 (c1) rfl (c2) ?_
  refine r_iload_n dX5_partner_4 rfl ?_
  refine r_iload_n dX5_partner_5 rfl ?_
  refine r_callV1 (c := 1) (mc := 0) (ms := 0) dX5_partner_6 ck_X1_holds iv_X1_holds sl_X1_holds lk_RX5_62 rfl rfl (c6) (by decide) (by decide) (As := [.int l1, .int l2]) rfl rfl (Nat.le_of_ble_eq_true rfl) (c4) (c5) (e3) ?_
  refine r_if_ne 14 dX5_partner_9 (by decide) (fun q1 => ?_) (fun q1 => ?_)
  · refine r_aload_n dX5_partner_14 rfl ?_
    refine r_getR (c := 5) (k := 1) dX5_partner_15 rfl rfl (by decide) fl_RX5_23 (c1) rfl (c7) ?_
    refine r_callV1 (c := 3) (mc := 0) (ms := 0) dX5_partner_18 ck_X3_refresh iv_X3_refresh sl_X3_refresh lk_RX5_84 rfl rfl (c9) (by decide) (by decide) (As := []) rfl rfl (Nat.le_of_ble_eq_true rfl) (c4) (c5) (e8 q1) ?_
    refine r_aload_n dX5_partner_21 rfl ?_
    refine r_getR (c := 5) (k := 1) dX5_partner_22 rfl rfl (by decide) fl_RX5_23 (c10 q1) rfl (c11 q1) ?_
    refine r_iload_n dX5_partner_25 rfl ?_
    refine r_iload_n dX5_partner_26 rfl ?_
    refine r_callV1 (c := 3) (mc := 0) (ms := 0) dX5_partner_27 ck_X3_mateOf iv_X3_mateOf sl_X3_mateOf lk_RX5_104 rfl rfl (c15 q1) (by decide) (by decide) (As := [.int l1, .int l2]) rfl rfl (Nat.le_of_ble_eq_true rfl) (c13 q1) (c14 q1) (e12 q1) ?_
    exact r_ireturn dX5_partner_30 rfl (k16 q1)
  · refine r_iconst (v := (-1)) dX5_partner_12 (by decide) ?_
    exact r_ireturn dX5_partner_13 rfl (k17 q1)

set_option maxRecDepth 20000 in
set_option maxHeartbeats 2000000 in
theorem s_X5_edgeIs_0 {G : GG} {nc ns : Nat} {h : PH} {Z : Option Value → PH → Prop} {l0 : Nat} {l1 : Int32} {l2 : Int32} {x1 : Int32} {h2 : PH} {h3 : PH} {x4 : Int64} {x5 : Int32} {x6 : Int32}
    (c1 : hK h l0 = 15)
    (c2 : (hR h l0 0) ≠ 0)
    (e3 : Ev G m_X1_joins [.ref (hR h l0 0), .int l1, .int l2] h 0 0 (Ret (some (.int x1)) h))
    (c4 : (hN h) ≤ nc)
    (c5 : (hS h) ≤ ns)
    (c6 : hK h (hR h l0 0) = 11)
    (c7 : (hR h l0 1) ≠ 0)
    (e8 : (¬ x1 = 0) → Ev G m_X3_refresh [.ref (hR h l0 1)] h 0 0 (Ret none h2))
    (c9 : hK h (hR h l0 1) = 13)
    (c10 : (¬ x1 = 0) → hK h2 l0 = 15)
    (c11 : (¬ x1 = 0) → (hR h2 l0 2) ≠ 0)
    (e12 : (¬ x1 = 0) → Ev G m_X0_refresh [.ref (hR h2 l0 2)] h2 0 0 (Ret none h3))
    (c13 : (¬ x1 = 0) → (hN h2) ≤ nc)
    (c14 : (¬ x1 = 0) → (hS h2) ≤ ns)
    (c15 : (¬ x1 = 0) → hK h2 (hR h2 l0 2) = 10)
    (c16 : (¬ x1 = 0) → hK h3 l0 = 15)
    (c17 : (¬ x1 = 0) → (hR h3 l0 2) ≠ 0)
    (e18 : (¬ x1 = 0) → Ev G m_X0_usefulRights [.ref (hR h3 l0 2), .int l1] h3 0 0 (Ret (some (.long x4)) h3))
    (c19 : (¬ x1 = 0) → (hN h3) ≤ nc)
    (c20 : (¬ x1 = 0) → (hS h3) ≤ ns)
    (c21 : (¬ x1 = 0) → hK h3 (hR h3 l0 2) = 10)
    (e22 : (¬ x1 = 0) → Ev G m_X5_contains [.long x4, .int l2] h3 0 0 (Ret (some (.int x5)) h3))
    (e23 : (¬ x1 = 0) → (¬ x5 = 0) → Ev G m_X0_isLonePair [.ref (hR h3 l0 2), .int l1] h3 0 0 (Ret (some (.int x6)) h3))
    (k24 : (¬ x1 = 0) → (¬ x5 = 0) → (x6 = 0) → Z (some (.int 1)) h3)
    (k25 : (¬ x1 = 0) → (¬ x5 = 0) → (¬ x6 = 0) → Z (some (.int 2)) h3)
    (k26 : (¬ x1 = 0) → (x5 = 0) → Z (some (.int 0)) h3)
    (k27 : (x1 = 0) → Z (some (.int (-1))) h) :
    RR G nc ns m_X5_edgeIs 0 [some (.ref l0), some (.int l1), some (.int l2)] [] h Z := by
  refine r_aload_n dX5_edgeIs_0 rfl ?_
  refine r_getR (c := 5) (k := 0) dX5_edgeIs_1 rfl rfl (by decide) fl_RX5_14 (c1) rfl (c2) ?_
  refine r_iload_n dX5_edgeIs_4 rfl ?_
  refine r_iload_n dX5_edgeIs_5 rfl ?_
  refine r_callV1 (c := 1) (mc := 0) (ms := 0) dX5_edgeIs_6 ck_X1_joins iv_X1_joins sl_X1_joins lk_RX5_66 rfl rfl (c6) (by decide) (by decide) (As := [.int l1, .int l2]) rfl rfl (Nat.le_of_ble_eq_true rfl) (c4) (c5) (e3) ?_
  refine r_if_ne 14 dX5_edgeIs_9 (by decide) (fun q1 => ?_) (fun q1 => ?_)
  · refine r_aload_n dX5_edgeIs_14 rfl ?_
    refine r_getR (c := 5) (k := 1) dX5_edgeIs_15 rfl rfl (by decide) fl_RX5_23 (c1) rfl (c7) ?_
    refine r_callV1 (c := 3) (mc := 0) (ms := 0) dX5_edgeIs_18 ck_X3_refresh iv_X3_refresh sl_X3_refresh lk_RX5_84 rfl rfl (c9) (by decide) (by decide) (As := []) rfl rfl (Nat.le_of_ble_eq_true rfl) (c4) (c5) (e8 q1) ?_
    refine r_aload_n dX5_edgeIs_21 rfl ?_
    refine r_getR (c := 5) (k := 2) dX5_edgeIs_22 rfl rfl (by decide) fl_RX5_32 (c10 q1) rfl (c11 q1) ?_
    refine r_callV1 (c := 0) (mc := 0) (ms := 0) dX5_edgeIs_25 ck_X0_refresh iv_X0_refresh sl_X0_refresh lk_RX5_94 rfl rfl (c15 q1) (by decide) (by decide) (As := []) rfl rfl (Nat.le_of_ble_eq_true rfl) (c13 q1) (c14 q1) (e12 q1) ?_
    refine r_aload_n dX5_edgeIs_28 rfl ?_
    refine r_getR (c := 5) (k := 2) dX5_edgeIs_29 rfl rfl (by decide) fl_RX5_32 (c16 q1) rfl (c17 q1) ?_
    refine r_iload_n dX5_edgeIs_32 rfl ?_
    refine r_callV1 (c := 0) (mc := 0) (ms := 0) dX5_edgeIs_33 ck_X0_usefulRights iv_X0_usefulRights sl_X0_usefulRights lk_RX5_108 rfl rfl (c21 q1) (by decide) (by decide) (As := [.int l1]) rfl rfl (Nat.le_of_ble_eq_true rfl) (c19 q1) (c20 q1) (e18 q1) ?_
    refine r_iload_n dX5_edgeIs_36 rfl ?_
    refine r_callS1 (mc := 0) (ms := 0) dX5_edgeIs_37 ck_X5_contains sv_X5_contains lk_RX5_112 (by decide) (by decide) (As := [.long x4, .int l2]) rfl rfl (Nat.le_of_ble_eq_true rfl) (c19 q1) (c20 q1) (e22 q1) ?_
    refine r_if_ne 45 dX5_edgeIs_40 (by decide) (fun q2 => ?_) (fun q2 => ?_)
    · refine r_aload_n dX5_edgeIs_45 rfl ?_
      refine r_getR (c := 5) (k := 2) dX5_edgeIs_46 rfl rfl (by decide) fl_RX5_32 (c16 q1) rfl (c17 q1) ?_
      refine r_iload_n dX5_edgeIs_49 rfl ?_
      refine r_callV1 (c := 0) (mc := 0) (ms := 0) dX5_edgeIs_50 ck_X0_isLonePair iv_X0_isLonePair sl_X0_isLonePair lk_RX5_116 rfl rfl (c21 q1) (by decide) (by decide) (As := [.int l1]) rfl rfl (Nat.le_of_ble_eq_true rfl) (c19 q1) (c20 q1) (e23 q1 q2) ?_
      refine r_if_eq 60 dX5_edgeIs_53 (by decide) (fun q3 => ?_) (fun q3 => ?_)
      · refine r_iconst (v := 1) dX5_edgeIs_60 (by decide) ?_
        exact r_ireturn dX5_edgeIs_61 rfl (k24 q1 q2 q3)
      · refine r_iconst (v := 2) dX5_edgeIs_56 (by decide) ?_
        refine r_goto (tgt := 61) dX5_edgeIs_57 (by decide) ?_
        exact r_ireturn dX5_edgeIs_61 rfl (k25 q1 q2 q3)
    · refine r_iconst (v := 0) dX5_edgeIs_43 (by decide) ?_
      exact r_ireturn dX5_edgeIs_44 rfl (k26 q1 q2)
  · refine r_iconst (v := (-1)) dX5_edgeIs_12 (by decide) ?_
    exact r_ireturn dX5_edgeIs_13 rfl (k27 q1)

set_option maxRecDepth 20000 in
set_option maxHeartbeats 2000000 in
theorem s_X5_nodeIs_0 {G : GG} {nc ns : Nat} {h : PH} {Z : Option Value → PH → Prop} {l0 : Nat} {l1 : Int32} {l2 : Int32} {x1 : Int32} {h2 : PH} {x3 : Int32} {x4 : Int32}
    (c1 : hK h l0 = 15)
    (c2 : (hR h l0 0) ≠ 0)
    (e3 : Ev G m_X1_holds [.ref (hR h l0 0), .int l1, .int l2] h 0 0 (Ret (some (.int x1)) h))
    (c4 : (hN h) ≤ nc)
    (c5 : (hS h) ≤ ns)
    (c6 : hK h (hR h l0 0) = 11)
    (c7 : (hR h l0 1) ≠ 0)
    (e8 : (¬ x1 = 0) → Ev G m_X3_refresh [.ref (hR h l0 1)] h 0 0 (Ret none h2))
    (c9 : hK h (hR h l0 1) = 13)
    (c10 : (¬ x1 = 0) → (¬ l1 = 0) → hK h2 l0 = 15)
    (c11 : (¬ x1 = 0) → (¬ l1 = 0) → (hR h2 l0 1) ≠ 0)
    (e12 : (¬ x1 = 0) → (¬ l1 = 0) → Ev G m_X3_partOf [.ref (hR h2 l0 1), .int l1, .int l2] h2 0 0 (Ret (some (.int x3)) h2))
    (c13 : (¬ x1 = 0) → (¬ l1 = 0) → (hN h2) ≤ nc)
    (c14 : (¬ x1 = 0) → (¬ l1 = 0) → (hS h2) ≤ ns)
    (c15 : (¬ x1 = 0) → (¬ l1 = 0) → hK h2 (hR h2 l0 1) = 13)
    (k16 : (¬ x1 = 0) → (¬ l1 = 0) → (¬ x3 = 2) → Z (some (.int 1)) h2)
    (k17 : (¬ x1 = 0) → (¬ l1 = 0) → (x3 = 2) → Z (some (.int 0)) h2)
    (c18 : (¬ x1 = 0) → (l1 = 0) → hK h2 l0 = 15)
    (c19 : (¬ x1 = 0) → (l1 = 0) → (hR h2 l0 1) ≠ 0)
    (e20 : (¬ x1 = 0) → (l1 = 0) → Ev G m_X3_partOf [.ref (hR h2 l0 1), .int l1, .int l2] h2 0 0 (Ret (some (.int x4)) h2))
    (c21 : (¬ x1 = 0) → (l1 = 0) → (hN h2) ≤ nc)
    (c22 : (¬ x1 = 0) → (l1 = 0) → (hS h2) ≤ ns)
    (c23 : (¬ x1 = 0) → (l1 = 0) → hK h2 (hR h2 l0 1) = 13)
    (k24 : (¬ x1 = 0) → (l1 = 0) → (¬ x4 = 0) → Z (some (.int 1)) h2)
    (k25 : (¬ x1 = 0) → (l1 = 0) → (x4 = 0) → Z (some (.int 0)) h2)
    (k26 : (x1 = 0) → Z (some (.int (-1))) h) :
    RR G nc ns m_X5_nodeIs 0 [some (.ref l0), some (.int l1), some (.int l2), none] [] h Z := by
  refine r_aload_n dX5_nodeIs_0 rfl ?_
  refine r_getR (c := 5) (k := 0) dX5_nodeIs_1 rfl rfl (by decide) fl_RX5_14 (c1) rfl (c2) ?_
  refine r_iload_n dX5_nodeIs_4 rfl ?_
  refine r_iload_n dX5_nodeIs_5 rfl ?_
  refine r_callV1 (c := 1) (mc := 0) (ms := 0) dX5_nodeIs_6 ck_X1_holds iv_X1_holds sl_X1_holds lk_RX5_62 rfl rfl (c6) (by decide) (by decide) (As := [.int l1, .int l2]) rfl rfl (Nat.le_of_ble_eq_true rfl) (c4) (c5) (e3) ?_
  refine r_if_ne 14 dX5_nodeIs_9 (by decide) (fun q1 => ?_) (fun q1 => ?_)
  · refine r_aload_n dX5_nodeIs_14 rfl ?_
    refine r_getR (c := 5) (k := 1) dX5_nodeIs_15 rfl rfl (by decide) fl_RX5_23 (c1) rfl (c7) ?_
    refine r_callV1 (c := 3) (mc := 0) (ms := 0) dX5_nodeIs_18 ck_X3_refresh iv_X3_refresh sl_X3_refresh lk_RX5_84 rfl rfl (c9) (by decide) (by decide) (As := []) rfl rfl (Nat.le_of_ble_eq_true rfl) (c4) (c5) (e8 q1) ?_
    refine r_iload_n dX5_nodeIs_21 rfl ?_
    refine r_if_ne 29 dX5_nodeIs_22 (by decide) (fun q2 => ?_) (fun q2 => ?_)
    · refine r_iconst (v := 2) dX5_nodeIs_29 (by decide) ?_
      refine r_istore_nL [some (.ref l0), some (.int l1), some (.int l2), some (.int 2)] dX5_nodeIs_30 (by decide) rfl ?_
      refine r_aload_n dX5_nodeIs_31 rfl ?_
      refine r_getR (c := 5) (k := 1) dX5_nodeIs_32 rfl rfl (by decide) fl_RX5_23 (c10 q1 q2) rfl (c11 q1 q2) ?_
      refine r_iload_n dX5_nodeIs_35 rfl ?_
      refine r_iload_n dX5_nodeIs_36 rfl ?_
      refine r_callV1 (c := 3) (mc := 0) (ms := 0) dX5_nodeIs_37 ck_X3_partOf iv_X3_partOf sl_X3_partOf lk_RX5_120 rfl rfl (c15 q1 q2) (by decide) (by decide) (As := [.int l1, .int l2]) rfl rfl (Nat.le_of_ble_eq_true rfl) (c13 q1 q2) (c14 q1 q2) (e12 q1 q2) ?_
      refine r_iload_n dX5_nodeIs_40 rfl ?_
      refine r_icmp_ne 48 dX5_nodeIs_41 (by decide) (fun q3 => ?_) (fun q3 => ?_)
      · refine r_iconst (v := 1) dX5_nodeIs_48 (by decide) ?_
        exact r_ireturn dX5_nodeIs_49 rfl (k16 q1 q2 q3)
      · refine r_iconst (v := 0) dX5_nodeIs_44 (by decide) ?_
        refine r_goto (tgt := 49) dX5_nodeIs_45 (by decide) ?_
        exact r_ireturn dX5_nodeIs_49 rfl (k17 q1 q2 q3)
    · refine r_iconst (v := 0) dX5_nodeIs_25 (by decide) ?_
      refine r_goto (tgt := 30) dX5_nodeIs_26 (by decide) ?_
      refine r_istore_nL [some (.ref l0), some (.int l1), some (.int l2), some (.int 0)] dX5_nodeIs_30 (by decide) rfl ?_
      refine r_aload_n dX5_nodeIs_31 rfl ?_
      refine r_getR (c := 5) (k := 1) dX5_nodeIs_32 rfl rfl (by decide) fl_RX5_23 (c18 q1 q2) rfl (c19 q1 q2) ?_
      refine r_iload_n dX5_nodeIs_35 rfl ?_
      refine r_iload_n dX5_nodeIs_36 rfl ?_
      refine r_callV1 (c := 3) (mc := 0) (ms := 0) dX5_nodeIs_37 ck_X3_partOf iv_X3_partOf sl_X3_partOf lk_RX5_120 rfl rfl (c23 q1 q2) (by decide) (by decide) (As := [.int l1, .int l2]) rfl rfl (Nat.le_of_ble_eq_true rfl) (c21 q1 q2) (c22 q1 q2) (e20 q1 q2) ?_
      refine r_iload_n dX5_nodeIs_40 rfl ?_
      refine r_icmp_ne 48 dX5_nodeIs_41 (by decide) (fun q4 => ?_) (fun q4 => ?_)
      · refine r_iconst (v := 1) dX5_nodeIs_48 (by decide) ?_
        exact r_ireturn dX5_nodeIs_49 rfl (k24 q1 q2 q4)
      · refine r_iconst (v := 0) dX5_nodeIs_44 (by decide) ?_
        refine r_goto (tgt := 49) dX5_nodeIs_45 (by decide) ?_
        exact r_ireturn dX5_nodeIs_49 rfl (k25 q1 q2 q4)
  · refine r_iconst (v := (-1)) dX5_nodeIs_12 (by decide) ?_
    exact r_ireturn dX5_nodeIs_13 rfl (k26 q1)

set_option maxRecDepth 20000 in
set_option maxHeartbeats 2000000 in
theorem s_X5_cover_0 {G : GG} {nc ns : Nat} {h : PH} {Z : Option Value → PH → Prop} {l0 : Nat} {l1 : Int32} {l2 : Int32} {l3 : Int32} {x1 : Int32} {x2 : Int32} {h3 : PH} {x4 : Int32}
    (e1 : Ev G m_X5_isOneOfTwo [.int l1] h 0 0 (Ret (some (.int x1)) h))
    (c2 : (hN h) ≤ nc)
    (c3 : (hS h) ≤ ns)
    (k4 : (x1 = 0) → Z (some (.int (-1))) h)
    (c5 : hK h l0 = 15)
    (c6 : (hR h l0 0) ≠ 0)
    (e7 : (¬ x1 = 0) → Ev G m_X1_holds [.ref (hR h l0 0), .int l2, .int l3] h 0 0 (Ret (some (.int x2)) h))
    (c8 : hK h (hR h l0 0) = 11)
    (c9 : (hR h l0 1) ≠ 0)
    (e10 : (¬ x1 = 0) → (¬ x2 = 0) → Ev G m_X3_refresh [.ref (hR h l0 1)] h 0 0 (Ret none h3))
    (c11 : hK h (hR h l0 1) = 13)
    (c12 : (¬ x1 = 0) → (¬ x2 = 0) → hK h3 l0 = 15)
    (c13 : (¬ x1 = 0) → (¬ x2 = 0) → (hR h3 l0 1) ≠ 0)
    (e14 : (¬ x1 = 0) → (¬ x2 = 0) → Ev G m_X3_isInCover [.ref (hR h3 l0 1), .int l1, .int l2, .int l3] h3 0 0 (Ret (some (.int x4)) h3))
    (c15 : (¬ x1 = 0) → (¬ x2 = 0) → (hN h3) ≤ nc)
    (c16 : (¬ x1 = 0) → (¬ x2 = 0) → (hS h3) ≤ ns)
    (c17 : (¬ x1 = 0) → (¬ x2 = 0) → hK h3 (hR h3 l0 1) = 13)
    (k18 : (¬ x1 = 0) → (¬ x2 = 0) → (x4 = 0) → Z (some (.int 0)) h3)
    (k19 : (¬ x1 = 0) → (¬ x2 = 0) → (¬ x4 = 0) → Z (some (.int 1)) h3)
    (k20 : (¬ x1 = 0) → (x2 = 0) → Z (some (.int (-1))) h) :
    RR G nc ns m_X5_cover 0 [some (.ref l0), some (.int l1), some (.int l2), some (.int l3)] [] h Z := by
  refine r_iload_n dX5_cover_0 rfl ?_
  refine r_callS1 (mc := 0) (ms := 0) dX5_cover_1 ck_X5_isOneOfTwo sv_X5_isOneOfTwo lk_RX5_123 (by decide) (by decide) (As := [.int l1]) rfl rfl (Nat.le_of_ble_eq_true rfl) (c2) (c3) (e1) ?_
  refine r_if_eq 19 dX5_cover_4 (by decide) (fun q1 => ?_) (fun q1 => ?_)
  · refine r_iconst (v := (-1)) dX5_cover_19 (by decide) ?_
    exact r_ireturn dX5_cover_20 rfl (k4 q1)
  · refine r_aload_n dX5_cover_7 rfl ?_
    refine r_getR (c := 5) (k := 0) dX5_cover_8 rfl rfl (by decide) fl_RX5_14 (c5) rfl (c6) ?_
    refine r_iload_n dX5_cover_11 rfl ?_
    refine r_iload_n dX5_cover_12 rfl ?_
    refine r_callV1 (c := 1) (mc := 0) (ms := 0) dX5_cover_13 ck_X1_holds iv_X1_holds sl_X1_holds lk_RX5_62 rfl rfl (c8) (by decide) (by decide) (As := [.int l2, .int l3]) rfl rfl (Nat.le_of_ble_eq_true rfl) (c2) (c3) (e7 q1) ?_
    refine r_if_ne 21 dX5_cover_16 (by decide) (fun q2 => ?_) (fun q2 => ?_)
    · refine r_aload_n dX5_cover_21 rfl ?_
      refine r_getR (c := 5) (k := 1) dX5_cover_22 rfl rfl (by decide) fl_RX5_23 (c5) rfl (c9) ?_
      refine r_callV1 (c := 3) (mc := 0) (ms := 0) dX5_cover_25 ck_X3_refresh iv_X3_refresh sl_X3_refresh lk_RX5_84 rfl rfl (c11) (by decide) (by decide) (As := []) rfl rfl (Nat.le_of_ble_eq_true rfl) (c2) (c3) (e10 q1 q2) ?_
      refine r_aload_n dX5_cover_28 rfl ?_
      refine r_getR (c := 5) (k := 1) dX5_cover_29 rfl rfl (by decide) fl_RX5_23 (c12 q1 q2) rfl (c13 q1 q2) ?_
      refine r_iload_n dX5_cover_32 rfl ?_
      refine r_iload_n dX5_cover_33 rfl ?_
      refine r_iload_n dX5_cover_34 rfl ?_
      refine r_callV1 (c := 3) (mc := 0) (ms := 0) dX5_cover_35 ck_X3_isInCover iv_X3_isInCover sl_X3_isInCover lk_RX5_126 rfl rfl (c17 q1 q2) (by decide) (by decide) (As := [.int l1, .int l2, .int l3]) rfl rfl (Nat.le_of_ble_eq_true rfl) (c15 q1 q2) (c16 q1 q2) (e14 q1 q2) ?_
      refine r_if_eq 45 dX5_cover_38 (by decide) (fun q3 => ?_) (fun q3 => ?_)
      · refine r_iconst (v := 0) dX5_cover_45 (by decide) ?_
        exact r_ireturn dX5_cover_46 rfl (k18 q1 q2 q3)
      · refine r_iconst (v := 1) dX5_cover_41 (by decide) ?_
        refine r_goto (tgt := 46) dX5_cover_42 (by decide) ?_
        exact r_ireturn dX5_cover_46 rfl (k19 q1 q2 q3)
    · refine r_iconst (v := (-1)) dX5_cover_19 (by decide) ?_
      exact r_ireturn dX5_cover_20 rfl (k20 q1 q2)

set_option maxRecDepth 20000 in
set_option maxHeartbeats 2000000 in
theorem s_X5_hall_0 {G : GG} {nc ns : Nat} {h : PH} {Z : Option Value → PH → Prop} {l0 : Nat} {l1 : Int32} {l2 : Int32} {x1 : Int32} {x2 : Int32} {h3 : PH} {x4 : Int32}
    (e1 : Ev G m_X5_isOneOfTwo [.int l1] h 0 0 (Ret (some (.int x1)) h))
    (c2 : (hN h) ≤ nc)
    (c3 : (hS h) ≤ ns)
    (k4 : (x1 = 0) → Z (some (.int (-1))) h)
    (c5 : hK h l0 = 15)
    (c6 : (hR h l0 0) ≠ 0)
    (e7 : (¬ x1 = 0) → Ev G m_X1_holds [.ref (hR h l0 0), .int 0, .int l2] h 0 0 (Ret (some (.int x2)) h))
    (c8 : hK h (hR h l0 0) = 11)
    (c9 : (hR h l0 1) ≠ 0)
    (e10 : (¬ x1 = 0) → (¬ x2 = 0) → Ev G m_X3_refresh [.ref (hR h l0 1)] h 0 0 (Ret none h3))
    (c11 : hK h (hR h l0 1) = 13)
    (c12 : (¬ x1 = 0) → (¬ x2 = 0) → hK h3 l0 = 15)
    (c13 : (¬ x1 = 0) → (¬ x2 = 0) → (hR h3 l0 1) ≠ 0)
    (e14 : (¬ x1 = 0) → (¬ x2 = 0) → Ev G m_X3_partOf [.ref (hR h3 l0 1), .int 0, .int l2] h3 0 0 (Ret (some (.int x4)) h3))
    (c15 : (¬ x1 = 0) → (¬ x2 = 0) → (hN h3) ≤ nc)
    (c16 : (¬ x1 = 0) → (¬ x2 = 0) → (hS h3) ≤ ns)
    (c17 : (¬ x1 = 0) → (¬ x2 = 0) → hK h3 (hR h3 l0 1) = 13)
    (k18 : (¬ x1 = 0) → (¬ x2 = 0) → (l1 < x4) → Z (some (.int 0)) h3)
    (k19 : (¬ x1 = 0) → (¬ x2 = 0) → (¬ l1 < x4) → Z (some (.int 1)) h3)
    (k20 : (¬ x1 = 0) → (x2 = 0) → Z (some (.int (-1))) h) :
    RR G nc ns m_X5_hall 0 [some (.ref l0), some (.int l1), some (.int l2)] [] h Z := by
  refine r_iload_n dX5_hall_0 rfl ?_
  refine r_callS1 (mc := 0) (ms := 0) dX5_hall_1 ck_X5_isOneOfTwo sv_X5_isOneOfTwo lk_RX5_123 (by decide) (by decide) (As := [.int l1]) rfl rfl (Nat.le_of_ble_eq_true rfl) (c2) (c3) (e1) ?_
  refine r_if_eq 19 dX5_hall_4 (by decide) (fun q1 => ?_) (fun q1 => ?_)
  · refine r_iconst (v := (-1)) dX5_hall_19 (by decide) ?_
    exact r_ireturn dX5_hall_20 rfl (k4 q1)
  · refine r_aload_n dX5_hall_7 rfl ?_
    refine r_getR (c := 5) (k := 0) dX5_hall_8 rfl rfl (by decide) fl_RX5_14 (c5) rfl (c6) ?_
    refine r_iconst (v := 0) dX5_hall_11 (by decide) ?_
    refine r_iload_n dX5_hall_12 rfl ?_
    refine r_callV1 (c := 1) (mc := 0) (ms := 0) dX5_hall_13 ck_X1_holds iv_X1_holds sl_X1_holds lk_RX5_62 rfl rfl (c8) (by decide) (by decide) (As := [.int 0, .int l2]) rfl rfl (Nat.le_of_ble_eq_true rfl) (c2) (c3) (e7 q1) ?_
    refine r_if_ne 21 dX5_hall_16 (by decide) (fun q2 => ?_) (fun q2 => ?_)
    · refine r_aload_n dX5_hall_21 rfl ?_
      refine r_getR (c := 5) (k := 1) dX5_hall_22 rfl rfl (by decide) fl_RX5_23 (c5) rfl (c9) ?_
      refine r_callV1 (c := 3) (mc := 0) (ms := 0) dX5_hall_25 ck_X3_refresh iv_X3_refresh sl_X3_refresh lk_RX5_84 rfl rfl (c11) (by decide) (by decide) (As := []) rfl rfl (Nat.le_of_ble_eq_true rfl) (c2) (c3) (e10 q1 q2) ?_
      refine r_aload_n dX5_hall_28 rfl ?_
      refine r_getR (c := 5) (k := 1) dX5_hall_29 rfl rfl (by decide) fl_RX5_23 (c12 q1 q2) rfl (c13 q1 q2) ?_
      refine r_iconst (v := 0) dX5_hall_32 (by decide) ?_
      refine r_iload_n dX5_hall_33 rfl ?_
      refine r_callV1 (c := 3) (mc := 0) (ms := 0) dX5_hall_34 ck_X3_partOf iv_X3_partOf sl_X3_partOf lk_RX5_120 rfl rfl (c17 q1 q2) (by decide) (by decide) (As := [.int 0, .int l2]) rfl rfl (Nat.le_of_ble_eq_true rfl) (c15 q1 q2) (c16 q1 q2) (e14 q1 q2) ?_
      refine r_iload_n dX5_hall_37 rfl ?_
      refine r_icmp_gt 45 dX5_hall_38 (by decide) (fun q3 => ?_) (fun q3 => ?_)
      · refine r_iconst (v := 0) dX5_hall_45 (by decide) ?_
        exact r_ireturn dX5_hall_46 rfl (k18 q1 q2 q3)
      · refine r_iconst (v := 1) dX5_hall_41 (by decide) ?_
        refine r_goto (tgt := 46) dX5_hall_42 (by decide) ?_
        exact r_ireturn dX5_hall_46 rfl (k19 q1 q2 q3)
    · refine r_iconst (v := (-1)) dX5_hall_19 (by decide) ?_
      exact r_ireturn dX5_hall_20 rfl (k20 q1 q2)

set_option maxRecDepth 20000 in
set_option maxHeartbeats 2000000 in
theorem s_X5_part_0 {G : GG} {nc ns : Nat} {h : PH} {Z : Option Value → PH → Prop} {l0 : Nat} {l1 : Int32} {l2 : Int32} {x1 : Int32} {h2 : PH} {x3 : Int32}
    (c1 : hK h l0 = 15)
    (c2 : (hR h l0 0) ≠ 0)
    (e3 : Ev G m_X1_holds [.ref (hR h l0 0), .int l1, .int l2] h 0 0 (Ret (some (.int x1)) h))
    (c4 : (hN h) ≤ nc)
    (c5 : (hS h) ≤ ns)
    (c6 : hK h (hR h l0 0) = 11)
    (c7 : (hR h l0 1) ≠ 0)
    (e8 : (¬ x1 = 0) → Ev G m_X3_refresh [.ref (hR h l0 1)] h 0 0 (Ret none h2))
    (c9 : hK h (hR h l0 1) = 13)
    (c10 : (¬ x1 = 0) → hK h2 l0 = 15)
    (c11 : (¬ x1 = 0) → (hR h2 l0 1) ≠ 0)
    (e12 : (¬ x1 = 0) → Ev G m_X3_partOf [.ref (hR h2 l0 1), .int l1, .int l2] h2 0 0 (Ret (some (.int x3)) h2))
    (c13 : (¬ x1 = 0) → (hN h2) ≤ nc)
    (c14 : (¬ x1 = 0) → (hS h2) ≤ ns)
    (c15 : (¬ x1 = 0) → hK h2 (hR h2 l0 1) = 13)
    (k16 : (¬ x1 = 0) → Z (some (.int x3)) h2)
    (k17 : (x1 = 0) → Z (some (.int (-1))) h) :
    RR G nc ns m_X5_part 0 [some (.ref l0), some (.int l1), some (.int l2)] [] h Z := by
  refine r_aload_n dX5_part_0 rfl ?_
  refine r_getR (c := 5) (k := 0) dX5_part_1 rfl rfl (by decide) fl_RX5_14 (c1) rfl (c2) ?_
  refine r_iload_n dX5_part_4 rfl ?_
  refine r_iload_n dX5_part_5 rfl ?_
  refine r_callV1 (c := 1) (mc := 0) (ms := 0) dX5_part_6 ck_X1_holds iv_X1_holds sl_X1_holds lk_RX5_62 rfl rfl (c6) (by decide) (by decide) (As := [.int l1, .int l2]) rfl rfl (Nat.le_of_ble_eq_true rfl) (c4) (c5) (e3) ?_
  refine r_if_ne 14 dX5_part_9 (by decide) (fun q1 => ?_) (fun q1 => ?_)
  · refine r_aload_n dX5_part_14 rfl ?_
    refine r_getR (c := 5) (k := 1) dX5_part_15 rfl rfl (by decide) fl_RX5_23 (c1) rfl (c7) ?_
    refine r_callV1 (c := 3) (mc := 0) (ms := 0) dX5_part_18 ck_X3_refresh iv_X3_refresh sl_X3_refresh lk_RX5_84 rfl rfl (c9) (by decide) (by decide) (As := []) rfl rfl (Nat.le_of_ble_eq_true rfl) (c4) (c5) (e8 q1) ?_
    refine r_aload_n dX5_part_21 rfl ?_
    refine r_getR (c := 5) (k := 1) dX5_part_22 rfl rfl (by decide) fl_RX5_23 (c10 q1) rfl (c11 q1) ?_
    refine r_iload_n dX5_part_25 rfl ?_
    refine r_iload_n dX5_part_26 rfl ?_
    refine r_callV1 (c := 3) (mc := 0) (ms := 0) dX5_part_27 ck_X3_partOf iv_X3_partOf sl_X3_partOf lk_RX5_120 rfl rfl (c15 q1) (by decide) (by decide) (As := [.int l1, .int l2]) rfl rfl (Nat.le_of_ble_eq_true rfl) (c13 q1) (c14 q1) (e12 q1) ?_
    exact r_ireturn dX5_part_30 rfl (k16 q1)
  · refine r_iconst (v := (-1)) dX5_part_12 (by decide) ?_
    exact r_ireturn dX5_part_13 rfl (k17 q1)

set_option maxRecDepth 20000 in
set_option maxHeartbeats 2000000 in
theorem s_X5_block_0 {G : GG} {nc ns : Nat} {h : PH} {Z : Option Value → PH → Prop} {l0 : Nat} {l1 : Int32} {l2 : Int32} {x1 : Int32} {h2 : PH} {h3 : PH} {x4 : Int32}
    (c1 : hK h l0 = 15)
    (c2 : (hR h l0 0) ≠ 0)
    (e3 : Ev G m_X1_holds [.ref (hR h l0 0), .int l1, .int l2] h 0 0 (Ret (some (.int x1)) h))
    (c4 : (hN h) ≤ nc)
    (c5 : (hS h) ≤ ns)
    (c6 : hK h (hR h l0 0) = 11)
    (c7 : (hR h l0 1) ≠ 0)
    (e8 : (¬ x1 = 0) → Ev G m_X3_refresh [.ref (hR h l0 1)] h 0 0 (Ret none h2))
    (c9 : hK h (hR h l0 1) = 13)
    (c10 : (¬ x1 = 0) → hK h2 l0 = 15)
    (c11 : (¬ x1 = 0) → (hR h2 l0 2) ≠ 0)
    (e12 : (¬ x1 = 0) → Ev G m_X0_refresh [.ref (hR h2 l0 2)] h2 0 0 (Ret none h3))
    (c13 : (¬ x1 = 0) → (hN h2) ≤ nc)
    (c14 : (¬ x1 = 0) → (hS h2) ≤ ns)
    (c15 : (¬ x1 = 0) → hK h2 (hR h2 l0 2) = 10)
    (c16 : (¬ x1 = 0) → hK h3 l0 = 15)
    (c17 : (¬ x1 = 0) → (hR h3 l0 2) ≠ 0)
    (e18 : (¬ x1 = 0) → Ev G m_X0_numberOf [.ref (hR h3 l0 2), .int l1, .int l2] h3 0 0 (Ret (some (.int x4)) h3))
    (c19 : (¬ x1 = 0) → (hN h3) ≤ nc)
    (c20 : (¬ x1 = 0) → (hS h3) ≤ ns)
    (c21 : (¬ x1 = 0) → hK h3 (hR h3 l0 2) = 10)
    (k22 : (¬ x1 = 0) → Z (some (.int x4)) h3)
    (k23 : (x1 = 0) → Z (some (.int (-1))) h) :
    RR G nc ns m_X5_block 0 [some (.ref l0), some (.int l1), some (.int l2)] [] h Z := by
  refine r_aload_n dX5_block_0 rfl ?_
  refine r_getR (c := 5) (k := 0) dX5_block_1 rfl rfl (by decide) fl_RX5_14 (c1) rfl (c2) ?_
  refine r_iload_n dX5_block_4 rfl ?_
  refine r_iload_n dX5_block_5 rfl ?_
  refine r_callV1 (c := 1) (mc := 0) (ms := 0) dX5_block_6 ck_X1_holds iv_X1_holds sl_X1_holds lk_RX5_62 rfl rfl (c6) (by decide) (by decide) (As := [.int l1, .int l2]) rfl rfl (Nat.le_of_ble_eq_true rfl) (c4) (c5) (e3) ?_
  refine r_if_ne 14 dX5_block_9 (by decide) (fun q1 => ?_) (fun q1 => ?_)
  · refine r_aload_n dX5_block_14 rfl ?_
    refine r_getR (c := 5) (k := 1) dX5_block_15 rfl rfl (by decide) fl_RX5_23 (c1) rfl (c7) ?_
    refine r_callV1 (c := 3) (mc := 0) (ms := 0) dX5_block_18 ck_X3_refresh iv_X3_refresh sl_X3_refresh lk_RX5_84 rfl rfl (c9) (by decide) (by decide) (As := []) rfl rfl (Nat.le_of_ble_eq_true rfl) (c4) (c5) (e8 q1) ?_
    refine r_aload_n dX5_block_21 rfl ?_
    refine r_getR (c := 5) (k := 2) dX5_block_22 rfl rfl (by decide) fl_RX5_32 (c10 q1) rfl (c11 q1) ?_
    refine r_callV1 (c := 0) (mc := 0) (ms := 0) dX5_block_25 ck_X0_refresh iv_X0_refresh sl_X0_refresh lk_RX5_94 rfl rfl (c15 q1) (by decide) (by decide) (As := []) rfl rfl (Nat.le_of_ble_eq_true rfl) (c13 q1) (c14 q1) (e12 q1) ?_
    refine r_aload_n dX5_block_28 rfl ?_
    refine r_getR (c := 5) (k := 2) dX5_block_29 rfl rfl (by decide) fl_RX5_32 (c16 q1) rfl (c17 q1) ?_
    refine r_iload_n dX5_block_32 rfl ?_
    refine r_iload_n dX5_block_33 rfl ?_
    refine r_callV1 (c := 0) (mc := 0) (ms := 0) dX5_block_34 ck_X0_numberOf iv_X0_numberOf sl_X0_numberOf lk_RX5_130 rfl rfl (c21 q1) (by decide) (by decide) (As := [.int l1, .int l2]) rfl rfl (Nat.le_of_ble_eq_true rfl) (c19 q1) (c20 q1) (e18 q1) ?_
    exact r_ireturn dX5_block_37 rfl (k22 q1)
  · refine r_iconst (v := (-1)) dX5_block_12 (by decide) ?_
    exact r_ireturn dX5_block_13 rfl (k23 q1)

set_option maxRecDepth 20000 in
set_option maxHeartbeats 2000000 in
theorem s_X5_leads_0 {G : GG} {nc ns : Nat} {h : PH} {Z : Option Value → PH → Prop} {l0 : Nat} {l1 : Int32} {l2 : Int32} {h1 : PH} {h2 : PH} {x3 : Int32} {x4 : Int32} {x5 : Int32}
    (c1 : hK h l0 = 15)
    (c2 : (hR h l0 1) ≠ 0)
    (e3 : Ev G m_X3_refresh [.ref (hR h l0 1)] h 0 0 (Ret none h1))
    (c4 : (hN h) ≤ nc)
    (c5 : (hS h) ≤ ns)
    (c6 : hK h (hR h l0 1) = 13)
    (c7 : hK h1 l0 = 15)
    (c8 : (hR h1 l0 2) ≠ 0)
    (e9 : Ev G m_X0_refresh [.ref (hR h1 l0 2)] h1 0 0 (Ret none h2))
    (c10 : (hN h1) ≤ nc)
    (c11 : (hS h1) ≤ ns)
    (c12 : hK h1 (hR h1 l0 2) = 10)
    (c13 : hK h2 l0 = 15)
    (c14 : (hR h2 l0 2) ≠ 0)
    (e15 : Ev G m_X0_holds [.ref (hR h2 l0 2), .int l1] h2 0 0 (Ret (some (.int x3)) h2))
    (c16 : (hN h2) ≤ nc)
    (c17 : (hS h2) ≤ ns)
    (c18 : hK h2 (hR h2 l0 2) = 10)
    (k19 : (x3 = 0) → Z (some (.int (-1))) h2)
    (e20 : (¬ x3 = 0) → Ev G m_X0_holds [.ref (hR h2 l0 2), .int l2] h2 0 0 (Ret (some (.int x4)) h2))
    (e21 : (¬ x3 = 0) → (¬ x4 = 0) → Ev G m_X0_comesTo [.ref (hR h2 l0 2), .int l1, .int l2] h2 0 0 (Ret (some (.int x5)) h2))
    (k22 : (¬ x3 = 0) → (¬ x4 = 0) → (x5 = 0) → Z (some (.int 0)) h2)
    (k23 : (¬ x3 = 0) → (¬ x4 = 0) → (¬ x5 = 0) → Z (some (.int 1)) h2)
    (k24 : (¬ x3 = 0) → (x4 = 0) → Z (some (.int (-1))) h2) :
    RR G nc ns m_X5_leads 0 [some (.ref l0), some (.int l1), some (.int l2)] [] h Z := by
  refine r_aload_n dX5_leads_0 rfl ?_
  refine r_getR (c := 5) (k := 1) dX5_leads_1 rfl rfl (by decide) fl_RX5_23 (c1) rfl (c2) ?_
  refine r_callV1 (c := 3) (mc := 0) (ms := 0) dX5_leads_4 ck_X3_refresh iv_X3_refresh sl_X3_refresh lk_RX5_84 rfl rfl (c6) (by decide) (by decide) (As := []) rfl rfl (Nat.le_of_ble_eq_true rfl) (c4) (c5) (e3) ?_
  refine r_aload_n dX5_leads_7 rfl ?_
  refine r_getR (c := 5) (k := 2) dX5_leads_8 rfl rfl (by decide) fl_RX5_32 (c7) rfl (c8) ?_
  refine r_callV1 (c := 0) (mc := 0) (ms := 0) dX5_leads_11 ck_X0_refresh iv_X0_refresh sl_X0_refresh lk_RX5_94 rfl rfl (c12) (by decide) (by decide) (As := []) rfl rfl (Nat.le_of_ble_eq_true rfl) (c10) (c11) (e9) ?_
  refine r_aload_n dX5_leads_14 rfl ?_
  refine r_getR (c := 5) (k := 2) dX5_leads_15 rfl rfl (by decide) fl_RX5_32 (c13) rfl (c14) ?_
  refine r_iload_n dX5_leads_18 rfl ?_
  refine r_callV1 (c := 0) (mc := 0) (ms := 0) dX5_leads_19 ck_X0_holds iv_X0_holds sl_X0_holds lk_RX5_133 rfl rfl (c18) (by decide) (by decide) (As := [.int l1]) rfl rfl (Nat.le_of_ble_eq_true rfl) (c16) (c17) (e15) ?_
  refine r_if_eq 36 dX5_leads_22 (by decide) (fun q1 => ?_) (fun q1 => ?_)
  · refine r_iconst (v := (-1)) dX5_leads_36 (by decide) ?_
    exact r_ireturn dX5_leads_37 rfl (k19 q1)
  · refine r_aload_n dX5_leads_25 rfl ?_
    refine r_getR (c := 5) (k := 2) dX5_leads_26 rfl rfl (by decide) fl_RX5_32 (c13) rfl (c14) ?_
    refine r_iload_n dX5_leads_29 rfl ?_
    refine r_callV1 (c := 0) (mc := 0) (ms := 0) dX5_leads_30 ck_X0_holds iv_X0_holds sl_X0_holds lk_RX5_133 rfl rfl (c18) (by decide) (by decide) (As := [.int l2]) rfl rfl (Nat.le_of_ble_eq_true rfl) (c16) (c17) (e20 q1) ?_
    refine r_if_ne 38 dX5_leads_33 (by decide) (fun q2 => ?_) (fun q2 => ?_)
    · refine r_aload_n dX5_leads_38 rfl ?_
      refine r_getR (c := 5) (k := 2) dX5_leads_39 rfl rfl (by decide) fl_RX5_32 (c13) rfl (c14) ?_
      refine r_iload_n dX5_leads_42 rfl ?_
      refine r_iload_n dX5_leads_43 rfl ?_
      refine r_callV1 (c := 0) (mc := 0) (ms := 0) dX5_leads_44 ck_X0_comesTo iv_X0_comesTo sl_X0_comesTo lk_RX5_135 rfl rfl (c18) (by decide) (by decide) (As := [.int l1, .int l2]) rfl rfl (Nat.le_of_ble_eq_true rfl) (c16) (c17) (e21 q1 q2) ?_
      refine r_if_eq 54 dX5_leads_47 (by decide) (fun q3 => ?_) (fun q3 => ?_)
      · refine r_iconst (v := 0) dX5_leads_54 (by decide) ?_
        exact r_ireturn dX5_leads_55 rfl (k22 q1 q2 q3)
      · refine r_iconst (v := 1) dX5_leads_50 (by decide) ?_
        refine r_goto (tgt := 55) dX5_leads_51 (by decide) ?_
        exact r_ireturn dX5_leads_55 rfl (k23 q1 q2 q3)
    · refine r_iconst (v := (-1)) dX5_leads_36 (by decide) ?_
      exact r_ireturn dX5_leads_37 rfl (k24 q1 q2)

set_option maxRecDepth 20000 in
set_option maxHeartbeats 2000000 in
theorem s_X5_pairings_0 {G : GG} {nc ns : Nat} {h : PH} {Z : Option Value → PH → Prop} {l0 : Nat} {x1 : Int32} {x2 : Int32} {h3 : PH} {h4 : PH} {h5 : PH} {mc5 : Nat} {ms5 : Nat} {x6 : Int64}
    (c1 : hK h l0 = 15)
    (c2 : (hR h l0 0) ≠ 0)
    (e3 : Ev G m_X1_sizeOf [.ref (hR h l0 0), .int 0] h 0 0 (Ret (some (.int x1)) h))
    (c4 : (hN h) ≤ nc)
    (c5 : (hS h) ≤ ns)
    (c6 : hK h (hR h l0 0) = 11)
    (k7 : (16 < x1) → Z (some (.long (-3))) h)
    (e8 : (¬ 16 < x1) → Ev G m_X1_sizeOf [.ref (hR h l0 0), .int 1] h 0 0 (Ret (some (.int x2)) h))
    (c9 : (hR h l0 1) ≠ 0)
    (e10 : (¬ 16 < x1) → (x2 ≤ 16) → Ev G m_X3_refresh [.ref (hR h l0 1)] h 0 0 (Ret none h3))
    (c11 : hK h (hR h l0 1) = 13)
    (c12 : (¬ 16 < x1) → (x2 ≤ 16) → hK h3 l0 = 15)
    (c13 : (¬ 16 < x1) → (x2 ≤ 16) → (hR h3 l0 2) ≠ 0)
    (e14 : (¬ 16 < x1) → (x2 ≤ 16) → Ev G m_X0_refresh [.ref (hR h3 l0 2)] h3 0 0 (Ret none h4))
    (c15 : (¬ 16 < x1) → (x2 ≤ 16) → (hN h3) ≤ nc)
    (c16 : (¬ 16 < x1) → (x2 ≤ 16) → (hS h3) ≤ ns)
    (c17 : (¬ 16 < x1) → (x2 ≤ 16) → hK h3 (hR h3 l0 2) = 10)
    (c18 : (¬ 16 < x1) → (x2 ≤ 16) → hK h4 l0 = 15)
    (c19 : (¬ 16 < x1) → (x2 ≤ 16) → (hR h4 l0 3) ≠ 0)
    (e20 : (¬ 16 < x1) → (x2 ≤ 16) → Ev G m_X4_refresh [.ref (hR h4 l0 3)] h4 mc5 ms5 (Ret none h5))
    (c21 : (¬ 16 < x1) → (x2 ≤ 16) → (hN h4) + mc5 ≤ nc)
    (c22 : (¬ 16 < x1) → (x2 ≤ 16) → (hS h4) + ms5 ≤ ns)
    (c23 : (¬ 16 < x1) → (x2 ≤ 16) → hK h4 (hR h4 l0 3) = 14)
    (c24 : (¬ 16 < x1) → (x2 ≤ 16) → hK h5 l0 = 15)
    (c25 : (¬ 16 < x1) → (x2 ≤ 16) → (hR h5 l0 3) ≠ 0)
    (e26 : (¬ 16 < x1) → (x2 ≤ 16) → Ev G m_X4_total [.ref (hR h5 l0 3)] h5 0 0 (Ret (some (.long x6)) h5))
    (c27 : (¬ 16 < x1) → (x2 ≤ 16) → (hN h5) ≤ nc)
    (c28 : (¬ 16 < x1) → (x2 ≤ 16) → (hS h5) ≤ ns)
    (c29 : (¬ 16 < x1) → (x2 ≤ 16) → hK h5 (hR h5 l0 3) = 14)
    (k30 : (¬ 16 < x1) → (x2 ≤ 16) → Z (some (.long x6)) h5)
    (k31 : (¬ 16 < x1) → (¬ x2 ≤ 16) → Z (some (.long (-3))) h) :
    RR G nc ns m_X5_pairings 0 [some (.ref l0)] [] h Z := by
  refine r_aload_n dX5_pairings_0 rfl ?_
  refine r_getR (c := 5) (k := 0) dX5_pairings_1 rfl rfl (by decide) fl_RX5_14 (c1) rfl (c2) ?_
  refine r_iconst (v := 0) dX5_pairings_4 (by decide) ?_
  refine r_callV1 (c := 1) (mc := 0) (ms := 0) dX5_pairings_5 ck_X1_sizeOf iv_X1_sizeOf sl_X1_sizeOf lk_RX5_77 rfl rfl (c6) (by decide) (by decide) (As := [.int 0]) rfl rfl (Nat.le_of_ble_eq_true rfl) (c4) (c5) (e3) ?_
  refine r_bipush (v := 16) dX5_pairings_8 (by decide) ?_
  refine r_icmp_gt 26 dX5_pairings_10 (by decide) (fun q1 => ?_) (fun q1 => ?_)
  · refine r_ldc2 (v := (-3)) dX5_pairings_26 cn_RX5_138 ?_
    exact r_lreturn dX5_pairings_29 rfl (k7 q1)
  · refine r_aload_n dX5_pairings_13 rfl ?_
    refine r_getR (c := 5) (k := 0) dX5_pairings_14 rfl rfl (by decide) fl_RX5_14 (c1) rfl (c2) ?_
    refine r_iconst (v := 1) dX5_pairings_17 (by decide) ?_
    refine r_callV1 (c := 1) (mc := 0) (ms := 0) dX5_pairings_18 ck_X1_sizeOf iv_X1_sizeOf sl_X1_sizeOf lk_RX5_77 rfl rfl (c6) (by decide) (by decide) (As := [.int 1]) rfl rfl (Nat.le_of_ble_eq_true rfl) (c4) (c5) (e8 q1) ?_
    refine r_bipush (v := 16) dX5_pairings_21 (by decide) ?_
    refine r_icmp_le 30 dX5_pairings_23 (by decide) (fun q2 => ?_) (fun q2 => ?_)
    · refine r_aload_n dX5_pairings_30 rfl ?_
      refine r_getR (c := 5) (k := 1) dX5_pairings_31 rfl rfl (by decide) fl_RX5_23 (c1) rfl (c9) ?_
      refine r_callV1 (c := 3) (mc := 0) (ms := 0) dX5_pairings_34 ck_X3_refresh iv_X3_refresh sl_X3_refresh lk_RX5_84 rfl rfl (c11) (by decide) (by decide) (As := []) rfl rfl (Nat.le_of_ble_eq_true rfl) (c4) (c5) (e10 q1 q2) ?_
      refine r_aload_n dX5_pairings_37 rfl ?_
      refine r_getR (c := 5) (k := 2) dX5_pairings_38 rfl rfl (by decide) fl_RX5_32 (c12 q1 q2) rfl (c13 q1 q2) ?_
      refine r_callV1 (c := 0) (mc := 0) (ms := 0) dX5_pairings_41 ck_X0_refresh iv_X0_refresh sl_X0_refresh lk_RX5_94 rfl rfl (c17 q1 q2) (by decide) (by decide) (As := []) rfl rfl (Nat.le_of_ble_eq_true rfl) (c15 q1 q2) (c16 q1 q2) (e14 q1 q2) ?_
      refine r_aload_n dX5_pairings_44 rfl ?_
      refine r_getR (c := 5) (k := 3) dX5_pairings_45 rfl rfl (by decide) fl_RX5_41 (c18 q1 q2) rfl (c19 q1 q2) ?_
      refine r_callV1 (c := 4) (mc := mc5) (ms := ms5) dX5_pairings_48 ck_X4_refresh iv_X4_refresh sl_X4_refresh lk_RX5_140 rfl rfl (c23 q1 q2) (by decide) (by decide) (As := []) rfl rfl (Nat.le_of_ble_eq_true rfl) (c21 q1 q2) (c22 q1 q2) (e20 q1 q2) ?_
      refine r_aload_n dX5_pairings_51 rfl ?_
      refine r_getR (c := 5) (k := 3) dX5_pairings_52 rfl rfl (by decide) fl_RX5_41 (c24 q1 q2) rfl (c25 q1 q2) ?_
      refine r_callV1 (c := 4) (mc := 0) (ms := 0) dX5_pairings_55 ck_X4_total iv_X4_total sl_X4_total lk_RX5_141 rfl rfl (c29 q1 q2) (by decide) (by decide) (As := []) rfl rfl (Nat.le_of_ble_eq_true rfl) (c27 q1 q2) (c28 q1 q2) (e26 q1 q2) ?_
      exact r_lreturn dX5_pairings_58 rfl (k30 q1 q2)
    · refine r_ldc2 (v := (-3)) dX5_pairings_26 cn_RX5_138 ?_
      exact r_lreturn dX5_pairings_29 rfl (k31 q1 q2)

set_option maxRecDepth 20000 in
set_option maxHeartbeats 2000000 in
theorem s_X5_thing_0 {G : GG} {nc ns : Nat} {h : PH} {Z : Option Value → PH → Prop} {l0 : Nat} {x1 : Int32} {h1 : PH} {x2 : Int32} {h2 : PH}
    (c1 : hK h l0 = 15)
    (c2 : (hR h l0 4) ≠ 0)
    (e3 : Ev G m_X1_add [.ref (hR h l0 4), .int 0] h 0 0 (Ret (some (.int x1)) h1))
    (c4 : (hN h) ≤ nc)
    (c5 : (hS h) ≤ ns)
    (c6 : hK h (hR h l0 4) = 11)
    (c7 : hK h1 l0 = 15)
    (c8 : (hR h1 l0 4) ≠ 0)
    (e9 : Ev G m_X1_add [.ref (hR h1 l0 4), .int 1] h1 0 0 (Ret (some (.int x2)) h2))
    (c10 : (hN h1) ≤ nc)
    (c11 : (hS h1) ≤ ns)
    (c12 : hK h1 (hR h1 l0 4) = 11)
    (k13 : Z (some (.int x2)) h2) :
    RR G nc ns m_X5_thing 0 [some (.ref l0)] [] h Z := by
  refine r_aload_n dX5_thing_0 rfl ?_
  refine r_getR (c := 5) (k := 4) dX5_thing_1 rfl rfl (by decide) fl_RX5_45 (c1) rfl (c2) ?_
  refine r_iconst (v := 0) dX5_thing_4 (by decide) ?_
  refine r_callV1 (c := 1) (mc := 0) (ms := 0) dX5_thing_5 ck_X1_add iv_X1_add sl_X1_add lk_RX5_58 rfl rfl (c6) (by decide) (by decide) (As := [.int 0]) rfl rfl (Nat.le_of_ble_eq_true rfl) (c4) (c5) (e3) ?_
  refine r_pop dX5_thing_8 rfl ?_
  refine r_aload_n dX5_thing_9 rfl ?_
  refine r_getR (c := 5) (k := 4) dX5_thing_10 rfl rfl (by decide) fl_RX5_45 (c7) rfl (c8) ?_
  refine r_iconst (v := 1) dX5_thing_13 (by decide) ?_
  refine r_callV1 (c := 1) (mc := 0) (ms := 0) dX5_thing_14 ck_X1_add iv_X1_add sl_X1_add lk_RX5_58 rfl rfl (c12) (by decide) (by decide) (As := [.int 1]) rfl rfl (Nat.le_of_ble_eq_true rfl) (c10) (c11) (e9) ?_
  exact r_ireturn dX5_thing_17 rfl (k13)

set_option maxRecDepth 20000 in
set_option maxHeartbeats 2000000 in
theorem s_X5_tell_0 {G : GG} {nc ns : Nat} {h : PH} {Z : Option Value → PH → Prop} {l0 : Nat} {l1 : Int32} {l2 : Int32} {x1 : Int32} {x2 : Int32} {x3 : Int32} {x4 : Int32} {x5 : Int64} {x6 : Int64} {h7 : PH}
    (c1 : hK h l0 = 15)
    (c2 : (hR h l0 4) ≠ 0)
    (e3 : Ev G m_X1_holds [.ref (hR h l0 4), .int 0, .int l1] h 0 0 (Ret (some (.int x1)) h))
    (c4 : (hN h) ≤ nc)
    (c5 : (hS h) ≤ ns)
    (c6 : hK h (hR h l0 4) = 11)
    (k7 : (x1 = 0) → Z (some (.int (-1))) h)
    (e8 : (¬ x1 = 0) → Ev G m_X1_holds [.ref (hR h l0 4), .int 0, .int l2] h 0 0 (Ret (some (.int x2)) h))
    (k9 : (¬ x1 = 0) → (¬ x2 = 0) → (l1 = l2) → Z (some (.int (-3))) h)
    (e10 : (¬ x1 = 0) → (¬ x2 = 0) → (¬ l1 = l2) → Ev G m_X1_joins [.ref (hR h l0 4), .int l2, .int l1] h 0 0 (Ret (some (.int x3)) h))
    (e11 : (¬ x1 = 0) → (¬ x2 = 0) → (¬ l1 = l2) → (x3 = 0) → Ev G m_X1_joins [.ref (hR h l0 4), .int l1, .int l2] h 0 0 (Ret (some (.int x4)) h))
    (e12 : (¬ x1 = 0) → (¬ x2 = 0) → (¬ l1 = l2) → (x3 = 0) → (x4 = 0) → Ev G m_X1_across [.ref (hR h l0 4), .int 1, .int l1] h 0 0 (Ret (some (.long x5)) h))
    (e13 : (¬ x1 = 0) → (¬ x2 = 0) → (¬ l1 = l2) → (x3 = 0) → (x4 = 0) → Ev G m_X1_across [.ref (hR h l0 4), .int 0, .int l2] h 0 0 (Ret (some (.long x6)) h))
    (e14 : (¬ x1 = 0) → (¬ x2 = 0) → (¬ l1 = l2) → (x3 = 0) → (x4 = 0) → Ev G m_X1_joinAll [.ref (hR h l0 4), .long (x5 ||| (1 <<< (Int32.toInt64 l1 &&& 63))), .long (x6 ||| (1 <<< (Int32.toInt64 l2 &&& 63)))] h 0 0 (Ret none h7))
    (k15 : (¬ x1 = 0) → (¬ x2 = 0) → (¬ l1 = l2) → (x3 = 0) → (x4 = 0) → Z (some (.int 1)) h7)
    (k16 : (¬ x1 = 0) → (¬ x2 = 0) → (¬ l1 = l2) → (x3 = 0) → (¬ x4 = 0) → Z (some (.int 0)) h)
    (k17 : (¬ x1 = 0) → (¬ x2 = 0) → (¬ l1 = l2) → (¬ x3 = 0) → Z (some (.int (-3))) h)
    (k18 : (¬ x1 = 0) → (x2 = 0) → Z (some (.int (-1))) h) :
    RR G nc ns m_X5_tell 0 [some (.ref l0), some (.int l1), some (.int l2), none, none, none, none] [] h Z := by
  refine r_aload_n dX5_tell_0 rfl ?_
  refine r_getR (c := 5) (k := 4) dX5_tell_1 rfl rfl (by decide) fl_RX5_45 (c1) rfl (c2) ?_
  refine r_iconst (v := 0) dX5_tell_4 (by decide) ?_
  refine r_iload_n dX5_tell_5 rfl ?_
  refine r_callV1 (c := 1) (mc := 0) (ms := 0) dX5_tell_6 ck_X1_holds iv_X1_holds sl_X1_holds lk_RX5_62 rfl rfl (c6) (by decide) (by decide) (As := [.int 0, .int l1]) rfl rfl (Nat.le_of_ble_eq_true rfl) (c4) (c5) (e3) ?_
  refine r_if_eq 24 dX5_tell_9 (by decide) (fun q1 => ?_) (fun q1 => ?_)
  · refine r_iconst (v := (-1)) dX5_tell_24 (by decide) ?_
    exact r_ireturn dX5_tell_25 rfl (k7 q1)
  · refine r_aload_n dX5_tell_12 rfl ?_
    refine r_getR (c := 5) (k := 4) dX5_tell_13 rfl rfl (by decide) fl_RX5_45 (c1) rfl (c2) ?_
    refine r_iconst (v := 0) dX5_tell_16 (by decide) ?_
    refine r_iload_n dX5_tell_17 rfl ?_
    refine r_callV1 (c := 1) (mc := 0) (ms := 0) dX5_tell_18 ck_X1_holds iv_X1_holds sl_X1_holds lk_RX5_62 rfl rfl (c6) (by decide) (by decide) (As := [.int 0, .int l2]) rfl rfl (Nat.le_of_ble_eq_true rfl) (c4) (c5) (e8 q1) ?_
    refine r_if_ne 26 dX5_tell_21 (by decide) (fun q2 => ?_) (fun q2 => ?_)
    · refine r_iload_n dX5_tell_26 rfl ?_
      refine r_iload_n dX5_tell_27 rfl ?_
      refine r_icmp_eq 43 dX5_tell_28 (by decide) (fun q3 => ?_) (fun q3 => ?_)
      · refine r_bipush (v := (-3)) dX5_tell_43 (by decide) ?_
        exact r_ireturn dX5_tell_45 rfl (k9 q1 q2 q3)
      · refine r_aload_n dX5_tell_31 rfl ?_
        refine r_getR (c := 5) (k := 4) dX5_tell_32 rfl rfl (by decide) fl_RX5_45 (c1) rfl (c2) ?_
        refine r_iload_n dX5_tell_35 rfl ?_
        refine r_iload_n dX5_tell_36 rfl ?_
        refine r_callV1 (c := 1) (mc := 0) (ms := 0) dX5_tell_37 ck_X1_joins iv_X1_joins sl_X1_joins lk_RX5_66 rfl rfl (c6) (by decide) (by decide) (As := [.int l2, .int l1]) rfl rfl (Nat.le_of_ble_eq_true rfl) (c4) (c5) (e10 q1 q2 q3) ?_
        refine r_if_eq 46 dX5_tell_40 (by decide) (fun q4 => ?_) (fun q4 => ?_)
        · refine r_aload_n dX5_tell_46 rfl ?_
          refine r_getR (c := 5) (k := 4) dX5_tell_47 rfl rfl (by decide) fl_RX5_45 (c1) rfl (c2) ?_
          refine r_iload_n dX5_tell_50 rfl ?_
          refine r_iload_n dX5_tell_51 rfl ?_
          refine r_callV1 (c := 1) (mc := 0) (ms := 0) dX5_tell_52 ck_X1_joins iv_X1_joins sl_X1_joins lk_RX5_66 rfl rfl (c6) (by decide) (by decide) (As := [.int l1, .int l2]) rfl rfl (Nat.le_of_ble_eq_true rfl) (c4) (c5) (e11 q1 q2 q3 q4) ?_
          refine r_if_eq 60 dX5_tell_55 (by decide) (fun q5 => ?_) (fun q5 => ?_)
          · refine r_aload_n dX5_tell_60 rfl ?_
            refine r_getR (c := 5) (k := 4) dX5_tell_61 rfl rfl (by decide) fl_RX5_45 (c1) rfl (c2) ?_
            refine r_iconst (v := 1) dX5_tell_64 (by decide) ?_
            refine r_iload_n dX5_tell_65 rfl ?_
            refine r_callV1 (c := 1) (mc := 0) (ms := 0) dX5_tell_66 ck_X1_across iv_X1_across sl_X1_across lk_RX5_145 rfl rfl (c6) (by decide) (by decide) (As := [.int 1, .int l1]) rfl rfl (Nat.le_of_ble_eq_true rfl) (c4) (c5) (e12 q1 q2 q3 q4 q5) ?_
            refine r_lconst (v := 1) dX5_tell_69 (by decide) ?_
            refine r_iload_n dX5_tell_70 rfl ?_
            refine r_lshl dX5_tell_71 ?_
            refine r_lor dX5_tell_72 ?_
            refine r_lstore_nL [some (.ref l0), some (.int l1), some (.int l2), some (.long (x5 ||| (1 <<< (Int32.toInt64 l1 &&& 63)))), none, none, none] dX5_tell_73 (by decide) rfl ?_
            refine r_aload_n dX5_tell_74 rfl ?_
            refine r_getR (c := 5) (k := 4) dX5_tell_75 rfl rfl (by decide) fl_RX5_45 (c1) rfl (c2) ?_
            refine r_iconst (v := 0) dX5_tell_78 (by decide) ?_
            refine r_iload_n dX5_tell_79 rfl ?_
            refine r_callV1 (c := 1) (mc := 0) (ms := 0) dX5_tell_80 ck_X1_across iv_X1_across sl_X1_across lk_RX5_145 rfl rfl (c6) (by decide) (by decide) (As := [.int 0, .int l2]) rfl rfl (Nat.le_of_ble_eq_true rfl) (c4) (c5) (e13 q1 q2 q3 q4 q5) ?_
            refine r_lconst (v := 1) dX5_tell_83 (by decide) ?_
            refine r_iload_n dX5_tell_84 rfl ?_
            refine r_lshl dX5_tell_85 ?_
            refine r_lor dX5_tell_86 ?_
            refine r_lstoreL [some (.ref l0), some (.int l1), some (.int l2), some (.long (x5 ||| (1 <<< (Int32.toInt64 l1 &&& 63)))), none, some (.long (x6 ||| (1 <<< (Int32.toInt64 l2 &&& 63)))), none] dX5_tell_87 (by decide) rfl ?_
            refine r_aload_n dX5_tell_89 rfl ?_
            refine r_getR (c := 5) (k := 4) dX5_tell_90 rfl rfl (by decide) fl_RX5_45 (c1) rfl (c2) ?_
            refine r_lload_n dX5_tell_93 rfl ?_
            refine r_lload dX5_tell_94 rfl ?_
            refine r_callV1 (c := 1) (mc := 0) (ms := 0) dX5_tell_96 ck_X1_joinAll iv_X1_joinAll sl_X1_joinAll lk_RX5_69 rfl rfl (c6) (by decide) (by decide) (As := [.long (x5 ||| (1 <<< (Int32.toInt64 l1 &&& 63))), .long (x6 ||| (1 <<< (Int32.toInt64 l2 &&& 63)))]) rfl rfl (Nat.le_of_ble_eq_true rfl) (c4) (c5) (e14 q1 q2 q3 q4 q5) ?_
            refine r_iconst (v := 1) dX5_tell_99 (by decide) ?_
            exact r_ireturn dX5_tell_100 rfl (k15 q1 q2 q3 q4 q5)
          · refine r_iconst (v := 0) dX5_tell_58 (by decide) ?_
            exact r_ireturn dX5_tell_59 rfl (k16 q1 q2 q3 q4 q5)
        · refine r_bipush (v := (-3)) dX5_tell_43 (by decide) ?_
          exact r_ireturn dX5_tell_45 rfl (k17 q1 q2 q3 q4)
    · refine r_iconst (v := (-1)) dX5_tell_24 (by decide) ?_
      exact r_ireturn dX5_tell_25 rfl (k18 q1 q2)

set_option maxRecDepth 20000 in
set_option maxHeartbeats 2000000 in
theorem s_X5_below_0 {G : GG} {nc ns : Nat} {h : PH} {Z : Option Value → PH → Prop} {l0 : Nat} {l1 : Int32} {l2 : Int32} {x1 : Int32}
    (c1 : hK h l0 = 15)
    (c2 : (hR h l0 4) ≠ 0)
    (e3 : Ev G m_X1_joins [.ref (hR h l0 4), .int l1, .int l2] h 0 0 (Ret (some (.int x1)) h))
    (c4 : (hN h) ≤ nc)
    (c5 : (hS h) ≤ ns)
    (c6 : hK h (hR h l0 4) = 11)
    (k7 : Z (some (.int x1)) h)
    (c8 : (x1 = 0 ∨ x1 = 1)) :
    RR G nc ns m_X5_below 0 [some (.ref l0), some (.int l1), some (.int l2)] [] h Z := by
  refine r_aload_n dX5_below_0 rfl ?_
  refine r_getR (c := 5) (k := 4) dX5_below_1 rfl rfl (by decide) fl_RX5_45 (c1) rfl (c2) ?_
  refine r_iload_n dX5_below_4 rfl ?_
  refine r_iload_n dX5_below_5 rfl ?_
  refine r_callV1 (c := 1) (mc := 0) (ms := 0) dX5_below_6 ck_X1_joins iv_X1_joins sl_X1_joins lk_RX5_66 rfl rfl (c6) (by decide) (by decide) (As := [.int l1, .int l2]) rfl rfl (Nat.le_of_ble_eq_true rfl) (c4) (c5) (e3) ?_
  exact r_zreturn dX5_below_9 rfl (c8) (k7)

set_option maxRecDepth 20000 in
set_option maxHeartbeats 2000000 in
theorem s_X5_about_0 {G : GG} {nc ns : Nat} {h : PH} {Z : Option Value → PH → Prop} {l0 : Nat} {l1 : Int32} {l2 : Int32} {x1 : Int32} {h2 : PH} {h3 : PH} {x4 : Int32} {x5 : Int32} {x6 : Int32} {x7 : Int32} {x8 : Int32}
    (c1 : hK h l0 = 15)
    (c2 : (hR h l0 4) ≠ 0)
    (e3 : Ev G m_X1_holds [.ref (hR h l0 4), .int 0, .int l1] h 0 0 (Ret (some (.int x1)) h))
    (c4 : (hN h) ≤ nc)
    (c5 : (hS h) ≤ ns)
    (c6 : hK h (hR h l0 4) = 11)
    (c7 : (hR h l0 5) ≠ 0)
    (e8 : (¬ x1 = 0) → Ev G m_X3_refresh [.ref (hR h l0 5)] h 0 0 (Ret none h2))
    (c9 : hK h (hR h l0 5) = 13)
    (c10 : (¬ x1 = 0) → hK h2 l0 = 15)
    (c11 : (¬ x1 = 0) → (hR h2 l0 6) ≠ 0)
    (e12 : (¬ x1 = 0) → Ev G m_X2_refresh [.ref (hR h2 l0 6)] h2 0 0 (Ret none h3))
    (c13 : (¬ x1 = 0) → (hN h2) ≤ nc)
    (c14 : (¬ x1 = 0) → (hS h2) ≤ ns)
    (c15 : (¬ x1 = 0) → hK h2 (hR h2 l0 6) = 12)
    (k16 : (¬ x1 = 0) → (l2 < 0 ∨ 4 < l2) → Z (some (.int (-1))) h3)
    (c17 : (¬ x1 = 0) → (l2 = 0) → hK h3 l0 = 15)
    (c18 : (¬ x1 = 0) → (l2 = 0) → (hR h3 l0 6) ≠ 0)
    (e19 : (¬ x1 = 0) → (l2 = 0) → Ev G m_X2_chainOf [.ref (hR h3 l0 6), .int l1] h3 0 0 (Ret (some (.int x4)) h3))
    (c20 : (¬ x1 = 0) → (l2 = 0) → (hN h3) ≤ nc)
    (c21 : (¬ x1 = 0) → (l2 = 0) → (hS h3) ≤ ns)
    (c22 : (¬ x1 = 0) → (l2 = 0) → hK h3 (hR h3 l0 6) = 12)
    (k23 : (¬ x1 = 0) → (l2 = 0) → Z (some (.int x4)) h3)
    (c24 : (¬ x1 = 0) → (l2 = 1) → hK h3 l0 = 15)
    (c25 : (¬ x1 = 0) → (l2 = 1) → (hR h3 l0 5) ≠ 0)
    (e26 : (¬ x1 = 0) → (l2 = 1) → Ev G m_X3_mateOf [.ref (hR h3 l0 5), .int 0, .int l1] h3 0 0 (Ret (some (.int x5)) h3))
    (c27 : (¬ x1 = 0) → (l2 = 1) → (hN h3) ≤ nc)
    (c28 : (¬ x1 = 0) → (l2 = 1) → (hS h3) ≤ ns)
    (c29 : (¬ x1 = 0) → (l2 = 1) → hK h3 (hR h3 l0 5) = 13)
    (k30 : (¬ x1 = 0) → (l2 = 1) → Z (some (.int x5)) h3)
    (c31 : (¬ x1 = 0) → (l2 = 2) → hK h3 l0 = 15)
    (c32 : (¬ x1 = 0) → (l2 = 2) → (hR h3 l0 6) ≠ 0)
    (e33 : (¬ x1 = 0) → (l2 = 2) → Ev G m_X2_levelOf [.ref (hR h3 l0 6), .int l1] h3 0 0 (Ret (some (.int x6)) h3))
    (c34 : (¬ x1 = 0) → (l2 = 2) → (hN h3) ≤ nc)
    (c35 : (¬ x1 = 0) → (l2 = 2) → (hS h3) ≤ ns)
    (c36 : (¬ x1 = 0) → (l2 = 2) → hK h3 (hR h3 l0 6) = 12)
    (k37 : (¬ x1 = 0) → (l2 = 2) → Z (some (.int x6)) h3)
    (c38 : (¬ x1 = 0) → (l2 = 3) → hK h3 l0 = 15)
    (c39 : (¬ x1 = 0) → (l2 = 3) → (hR h3 l0 6) ≠ 0)
    (e40 : (¬ x1 = 0) → (l2 = 3) → Ev G m_X2_isInAntichain [.ref (hR h3 l0 6), .int (l2 - 3), .int l1] h3 0 0 (Ret (some (.int x7)) h3))
    (c41 : (¬ x1 = 0) → (l2 = 3) → (hN h3) ≤ nc)
    (c42 : (¬ x1 = 0) → (l2 = 3) → (hS h3) ≤ ns)
    (c43 : (¬ x1 = 0) → (l2 = 3) → hK h3 (hR h3 l0 6) = 12)
    (k44 : (¬ x1 = 0) → (l2 = 3) → (x7 = 0) → Z (some (.int 0)) h3)
    (k45 : (¬ x1 = 0) → (l2 = 3) → (¬ x7 = 0) → Z (some (.int 1)) h3)
    (c46 : (¬ x1 = 0) → (l2 = 4) → hK h3 l0 = 15)
    (c47 : (¬ x1 = 0) → (l2 = 4) → (hR h3 l0 6) ≠ 0)
    (e48 : (¬ x1 = 0) → (l2 = 4) → Ev G m_X2_isInAntichain [.ref (hR h3 l0 6), .int (l2 - 3), .int l1] h3 0 0 (Ret (some (.int x8)) h3))
    (c49 : (¬ x1 = 0) → (l2 = 4) → (hN h3) ≤ nc)
    (c50 : (¬ x1 = 0) → (l2 = 4) → (hS h3) ≤ ns)
    (c51 : (¬ x1 = 0) → (l2 = 4) → hK h3 (hR h3 l0 6) = 12)
    (k52 : (¬ x1 = 0) → (l2 = 4) → (x8 = 0) → Z (some (.int 0)) h3)
    (k53 : (¬ x1 = 0) → (l2 = 4) → (¬ x8 = 0) → Z (some (.int 1)) h3)
    (k54 : (x1 = 0) → Z (some (.int (-1))) h) :
    RR G nc ns m_X5_about 0 [some (.ref l0), some (.int l1), some (.int l2)] [] h Z := by
  refine r_aload_n dX5_about_0 rfl ?_
  refine r_getR (c := 5) (k := 4) dX5_about_1 rfl rfl (by decide) fl_RX5_45 (c1) rfl (c2) ?_
  refine r_iconst (v := 0) dX5_about_4 (by decide) ?_
  refine r_iload_n dX5_about_5 rfl ?_
  refine r_callV1 (c := 1) (mc := 0) (ms := 0) dX5_about_6 ck_X1_holds iv_X1_holds sl_X1_holds lk_RX5_62 rfl rfl (c6) (by decide) (by decide) (As := [.int 0, .int l1]) rfl rfl (Nat.le_of_ble_eq_true rfl) (c4) (c5) (e3) ?_
  refine r_if_ne 14 dX5_about_9 (by decide) (fun q1 => ?_) (fun q1 => ?_)
  · refine r_aload_n dX5_about_14 rfl ?_
    refine r_getR (c := 5) (k := 5) dX5_about_15 rfl rfl (by decide) fl_RX5_48 (c1) rfl (c7) ?_
    refine r_callV1 (c := 3) (mc := 0) (ms := 0) dX5_about_18 ck_X3_refresh iv_X3_refresh sl_X3_refresh lk_RX5_84 rfl rfl (c9) (by decide) (by decide) (As := []) rfl rfl (Nat.le_of_ble_eq_true rfl) (c4) (c5) (e8 q1) ?_
    refine r_aload_n dX5_about_21 rfl ?_
    refine r_getR (c := 5) (k := 6) dX5_about_22 rfl rfl (by decide) fl_RX5_54 (c10 q1) rfl (c11 q1) ?_
    refine r_callV1 (c := 2) (mc := 0) (ms := 0) dX5_about_25 ck_X2_refresh iv_X2_refresh sl_X2_refresh lk_RX5_87 rfl rfl (c15 q1) (by decide) (by decide) (As := []) rfl rfl (Nat.le_of_ble_eq_true rfl) (c13 q1) (c14 q1) (e12 q1) ?_
    refine r_iload_n dX5_about_28 rfl ?_
    by_cases q2 : l2 < 0 ∨ 4 < l2
    · refine r_tableOut (tgt := 112) dX5_about_29 (sw_out (by decide) (by decide) q2) (by decide) ?_
      refine r_iconst (v := (-1)) dX5_about_112 (by decide) ?_
      exact r_ireturn dX5_about_113 rfl (k16 q1 q2)
    · rcases sw_in_0_4 q2 with q9 | q9 | q9 | q9 | q9
      · have q3 : l2 = 0 := q9
        refine r_tableIn (off := 35) (tgt := 64) dX5_about_29 (by rw [q3]; decide) (by rw [q3]; decide) (by rw [q3]; rfl) (by decide) ?_
        refine r_aload_n dX5_about_64 rfl ?_
        refine r_getR (c := 5) (k := 6) dX5_about_65 rfl rfl (by decide) fl_RX5_54 (c17 q1 q3) rfl (c18 q1 q3) ?_
        refine r_iload_n dX5_about_68 rfl ?_
        refine r_callV1 (c := 2) (mc := 0) (ms := 0) dX5_about_69 ck_X2_chainOf iv_X2_chainOf sl_X2_chainOf lk_RX5_149 rfl rfl (c22 q1 q3) (by decide) (by decide) (As := [.int l1]) rfl rfl (Nat.le_of_ble_eq_true rfl) (c20 q1 q3) (c21 q1 q3) (e19 q1 q3) ?_
        exact r_ireturn dX5_about_72 rfl (k23 q1 q3)
      · have q4 : l2 = 1 := q9
        refine r_tableIn (off := 44) (tgt := 73) dX5_about_29 (by rw [q4]; decide) (by rw [q4]; decide) (by rw [q4]; rfl) (by decide) ?_
        refine r_aload_n dX5_about_73 rfl ?_
        refine r_getR (c := 5) (k := 5) dX5_about_74 rfl rfl (by decide) fl_RX5_48 (c24 q1 q4) rfl (c25 q1 q4) ?_
        refine r_iconst (v := 0) dX5_about_77 (by decide) ?_
        refine r_iload_n dX5_about_78 rfl ?_
        refine r_callV1 (c := 3) (mc := 0) (ms := 0) dX5_about_79 ck_X3_mateOf iv_X3_mateOf sl_X3_mateOf lk_RX5_104 rfl rfl (c29 q1 q4) (by decide) (by decide) (As := [.int 0, .int l1]) rfl rfl (Nat.le_of_ble_eq_true rfl) (c27 q1 q4) (c28 q1 q4) (e26 q1 q4) ?_
        exact r_ireturn dX5_about_82 rfl (k30 q1 q4)
      · have q5 : l2 = 2 := q9
        refine r_tableIn (off := 54) (tgt := 83) dX5_about_29 (by rw [q5]; decide) (by rw [q5]; decide) (by rw [q5]; rfl) (by decide) ?_
        refine r_aload_n dX5_about_83 rfl ?_
        refine r_getR (c := 5) (k := 6) dX5_about_84 rfl rfl (by decide) fl_RX5_54 (c31 q1 q5) rfl (c32 q1 q5) ?_
        refine r_iload_n dX5_about_87 rfl ?_
        refine r_callV1 (c := 2) (mc := 0) (ms := 0) dX5_about_88 ck_X2_levelOf iv_X2_levelOf sl_X2_levelOf lk_RX5_152 rfl rfl (c36 q1 q5) (by decide) (by decide) (As := [.int l1]) rfl rfl (Nat.le_of_ble_eq_true rfl) (c34 q1 q5) (c35 q1 q5) (e33 q1 q5) ?_
        exact r_ireturn dX5_about_91 rfl (k37 q1 q5)
      · have q6 : l2 = 3 := q9
        refine r_tableIn (off := 63) (tgt := 92) dX5_about_29 (by rw [q6]; decide) (by rw [q6]; decide) (by rw [q6]; rfl) (by decide) ?_
        refine r_aload_n dX5_about_92 rfl ?_
        refine r_getR (c := 5) (k := 6) dX5_about_93 rfl rfl (by decide) fl_RX5_54 (c38 q1 q6) rfl (c39 q1 q6) ?_
        refine r_iload_n dX5_about_96 rfl ?_
        refine r_iconst (v := 3) dX5_about_97 (by decide) ?_
        refine r_isub dX5_about_98 ?_
        refine r_iload_n dX5_about_99 rfl ?_
        refine r_callV1 (c := 2) (mc := 0) (ms := 0) dX5_about_100 ck_X2_isInAntichain iv_X2_isInAntichain sl_X2_isInAntichain lk_RX5_155 rfl rfl (c43 q1 q6) (by decide) (by decide) (As := [.int (l2 - 3), .int l1]) rfl rfl (Nat.le_of_ble_eq_true rfl) (c41 q1 q6) (c42 q1 q6) (e40 q1 q6) ?_
        refine r_if_eq 110 dX5_about_103 (by decide) (fun q7 => ?_) (fun q7 => ?_)
        · refine r_iconst (v := 0) dX5_about_110 (by decide) ?_
          exact r_ireturn dX5_about_111 rfl (k44 q1 q6 q7)
        · refine r_iconst (v := 1) dX5_about_106 (by decide) ?_
          refine r_goto (tgt := 111) dX5_about_107 (by decide) ?_
          exact r_ireturn dX5_about_111 rfl (k45 q1 q6 q7)
      · have q8 : l2 = 4 := q9
        refine r_tableIn (off := 63) (tgt := 92) dX5_about_29 (by rw [q8]; decide) (by rw [q8]; decide) (by rw [q8]; rfl) (by decide) ?_
        refine r_aload_n dX5_about_92 rfl ?_
        refine r_getR (c := 5) (k := 6) dX5_about_93 rfl rfl (by decide) fl_RX5_54 (c46 q1 q8) rfl (c47 q1 q8) ?_
        refine r_iload_n dX5_about_96 rfl ?_
        refine r_iconst (v := 3) dX5_about_97 (by decide) ?_
        refine r_isub dX5_about_98 ?_
        refine r_iload_n dX5_about_99 rfl ?_
        refine r_callV1 (c := 2) (mc := 0) (ms := 0) dX5_about_100 ck_X2_isInAntichain iv_X2_isInAntichain sl_X2_isInAntichain lk_RX5_155 rfl rfl (c51 q1 q8) (by decide) (by decide) (As := [.int (l2 - 3), .int l1]) rfl rfl (Nat.le_of_ble_eq_true rfl) (c49 q1 q8) (c50 q1 q8) (e48 q1 q8) ?_
        refine r_if_eq 110 dX5_about_103 (by decide) (fun q9 => ?_) (fun q9 => ?_)
        · refine r_iconst (v := 0) dX5_about_110 (by decide) ?_
          exact r_ireturn dX5_about_111 rfl (k52 q1 q8 q9)
        · refine r_iconst (v := 1) dX5_about_106 (by decide) ?_
          refine r_goto (tgt := 111) dX5_about_107 (by decide) ?_
          exact r_ireturn dX5_about_111 rfl (k53 q1 q8 q9)
  · refine r_iconst (v := (-1)) dX5_about_12 (by decide) ?_
    exact r_ireturn dX5_about_13 rfl (k54 q1)

set_option maxRecDepth 20000 in
set_option maxHeartbeats 2000000 in
theorem s_X5_clearGraph_0 {G : GG} {nc ns : Nat} {h : PH} {Z : Option Value → PH → Prop} {l0 : Nat} {x1 : Int32} {x2 : Int32} {h3 : PH}
    (c1 : hK h l0 = 15)
    (c2 : (hR h l0 0) ≠ 0)
    (e3 : Ev G m_X1_sizeOf [.ref (hR h l0 0), .int 0] h 0 0 (Ret (some (.int x1)) h))
    (c4 : (hN h) ≤ nc)
    (c5 : (hS h) ≤ ns)
    (c6 : hK h (hR h l0 0) = 11)
    (e7 : Ev G m_X1_sizeOf [.ref (hR h l0 0), .int 1] h 0 0 (Ret (some (.int x2)) h))
    (e8 : Ev G m_X1_clear [.ref (hR h l0 0)] h 0 0 (Ret none h3))
    (k9 : Z (some (.int (x1 + x2))) h3) :
    RR G nc ns m_X5_clearGraph 0 [some (.ref l0), none] [] h Z := by
  refine r_aload_n dX5_clearGraph_0 rfl ?_
  refine r_getR (c := 5) (k := 0) dX5_clearGraph_1 rfl rfl (by decide) fl_RX5_14 (c1) rfl (c2) ?_
  refine r_iconst (v := 0) dX5_clearGraph_4 (by decide) ?_
  refine r_callV1 (c := 1) (mc := 0) (ms := 0) dX5_clearGraph_5 ck_X1_sizeOf iv_X1_sizeOf sl_X1_sizeOf lk_RX5_77 rfl rfl (c6) (by decide) (by decide) (As := [.int 0]) rfl rfl (Nat.le_of_ble_eq_true rfl) (c4) (c5) (e3) ?_
  refine r_aload_n dX5_clearGraph_8 rfl ?_
  refine r_getR (c := 5) (k := 0) dX5_clearGraph_9 rfl rfl (by decide) fl_RX5_14 (c1) rfl (c2) ?_
  refine r_iconst (v := 1) dX5_clearGraph_12 (by decide) ?_
  refine r_callV1 (c := 1) (mc := 0) (ms := 0) dX5_clearGraph_13 ck_X1_sizeOf iv_X1_sizeOf sl_X1_sizeOf lk_RX5_77 rfl rfl (c6) (by decide) (by decide) (As := [.int 1]) rfl rfl (Nat.le_of_ble_eq_true rfl) (c4) (c5) (e7) ?_
  refine r_iadd dX5_clearGraph_16 ?_
  refine r_istore_nL [some (.ref l0), some (.int (x1 + x2))] dX5_clearGraph_17 (by decide) rfl ?_
  refine r_aload_n dX5_clearGraph_18 rfl ?_
  refine r_getR (c := 5) (k := 0) dX5_clearGraph_19 rfl rfl (by decide) fl_RX5_14 (c1) rfl (c2) ?_
  refine r_callV1 (c := 1) (mc := 0) (ms := 0) dX5_clearGraph_22 ck_X1_clear iv_X1_clear sl_X1_clear lk_RX5_158 rfl rfl (c6) (by decide) (by decide) (As := []) rfl rfl (Nat.le_of_ble_eq_true rfl) (c4) (c5) (e8) ?_
  refine r_iload_n dX5_clearGraph_25 rfl ?_
  exact r_ireturn dX5_clearGraph_26 rfl (k9)

set_option maxRecDepth 20000 in
set_option maxHeartbeats 2000000 in
theorem s_X5_clearThings_0 {G : GG} {nc ns : Nat} {h : PH} {Z : Option Value → PH → Prop} {l0 : Nat} {x1 : Int32} {h2 : PH}
    (c1 : hK h l0 = 15)
    (c2 : (hR h l0 4) ≠ 0)
    (e3 : Ev G m_X1_sizeOf [.ref (hR h l0 4), .int 0] h 0 0 (Ret (some (.int x1)) h))
    (c4 : (hN h) ≤ nc)
    (c5 : (hS h) ≤ ns)
    (c6 : hK h (hR h l0 4) = 11)
    (e7 : Ev G m_X1_clear [.ref (hR h l0 4)] h 0 0 (Ret none h2))
    (k8 : Z (some (.int x1)) h2) :
    RR G nc ns m_X5_clearThings 0 [some (.ref l0), none] [] h Z := by
  refine r_aload_n dX5_clearThings_0 rfl ?_
  refine r_getR (c := 5) (k := 4) dX5_clearThings_1 rfl rfl (by decide) fl_RX5_45 (c1) rfl (c2) ?_
  refine r_iconst (v := 0) dX5_clearThings_4 (by decide) ?_
  refine r_callV1 (c := 1) (mc := 0) (ms := 0) dX5_clearThings_5 ck_X1_sizeOf iv_X1_sizeOf sl_X1_sizeOf lk_RX5_77 rfl rfl (c6) (by decide) (by decide) (As := [.int 0]) rfl rfl (Nat.le_of_ble_eq_true rfl) (c4) (c5) (e3) ?_
  refine r_istore_nL [some (.ref l0), some (.int x1)] dX5_clearThings_8 (by decide) rfl ?_
  refine r_aload_n dX5_clearThings_9 rfl ?_
  refine r_getR (c := 5) (k := 4) dX5_clearThings_10 rfl rfl (by decide) fl_RX5_45 (c1) rfl (c2) ?_
  refine r_callV1 (c := 1) (mc := 0) (ms := 0) dX5_clearThings_13 ck_X1_clear iv_X1_clear sl_X1_clear lk_RX5_158 rfl rfl (c6) (by decide) (by decide) (As := []) rfl rfl (Nat.le_of_ble_eq_true rfl) (c4) (c5) (e7) ?_
  refine r_iload_n dX5_clearThings_16 rfl ?_
  exact r_ireturn dX5_clearThings_17 rfl (k8)
