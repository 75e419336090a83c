set_option maxRecDepth 20000 in
set_option maxHeartbeats 2000000 in
theorem s_X5_init_0 {G : GG} {nc ns : Nat} {h : PH} {Z : Option Value → PH → Prop} {l0 : Nat} {mc1 : Nat} {ms1 : Nat} {P1 : PH → Prop}
    (c1 : (hN h) + 1 ≤ nc)
    (c2 : (hS h) + 4 ≤ ns)
    (c3 : (hN h + 1) + mc1 ≤ nc)
    (c4 : (hS h + 4) + ms1 ≤ ns)
    (e5 : Ev G m_X1_init [.ref (hN h), .int 50] (nA h 11 4) mc1 ms1 (RV P1))
    (k6 : ∀ (h1 : PH), P1 h1 → hN h1 = (hN h + 1) + mc1 → hS h1 = (hS h + 4) + ms1 → RR G nc ns m_X5_init 14 [some (.ref l0)] [.ref (hN h), .ref l0] h1 Z) :
    RR G nc ns m_X5_init 0 [some (.ref l0)] [] h Z := by
  refine r_aload_n dX5_init_0 rfl ?_
  refine r_objInit dX5_init_1 lk_RX5_1 iv_obj cd_obj (by decide) (by decide) (Nat.le_of_ble_eq_true rfl) ?_
  refine r_aload_n dX5_init_4 rfl ?_
  refine r_new (c := 1) dX5_init_5 rfl rfl (by decide) cl_RX5_7 in_RX1 it_RX1 (c1) (c2) ?_
  refine r_dup dX5_init_8 rfl ?_
  refine r_bipush (v := 50) dX5_init_9 (by decide) ?_
  refine r_callI (mc := mc1) (ms := ms1) dX5_init_11 ck_X1_init iv_X1_init rfl rfl lk_RX5_11 (by decide) (by decide) (As := [.int 50]) rfl rfl (Nat.le_of_ble_eq_true rfl) (Or.inr (c3)) (Or.inr (c4)) (e5) ?_
  rintro v1 h1 ⟨rfl, z1⟩ n1 t1
  exact k6 h1 z1 n1 t1

set_option maxRecDepth 20000 in
set_option maxHeartbeats 2000000 in
theorem s_X5_init_14 {G : GG} {nc ns : Nat} {h : PH} {Z : Option Value → PH → Prop} {l0 : Nat} {s0 : Nat} {s1 : Nat}
    (c1 : hK h s0 = 15)
    (c2 : s1 ≠ 0)
    (k3 : RR G nc ns m_X5_init 17 [some (.ref l0)] [] (sR h s0 0 s1) Z) :
    RR G nc ns m_X5_init 14 [some (.ref l0)] [.ref s1, .ref s0] h Z := by
  refine r_putR (c := 5) (k := 0) dX5_init_14 rfl rfl (by decide) fl_RX5_14 (c1) (Or.inr ⟨rfl, rfl, rfl⟩) rfl (c2) ?_
  exact k3

set_option maxRecDepth 20000 in
set_option maxHeartbeats 2000000 in
theorem s_X5_init_17 {G : GG} {nc ns : Nat} {h : PH} {Z : Option Value → PH → Prop} {l0 : Nat} {mc1 : Nat} {ms1 : Nat} {P1 : PH → Prop}
    (c1 : (hN h) + 1 ≤ nc)
    (c2 : (hS h) + 9 ≤ ns)
    (c3 : hK (nA h 13 9) l0 = 15)
    (c4 : (hR (nA h 13 9) l0 0) ≠ 0)
    (c5 : (hN h + 1) + mc1 ≤ nc)
    (c6 : (hS h + 9) + ms1 ≤ ns)
    (e7 : Ev G m_X3_init [.ref (hN h), .ref (hR (nA h 13 9) l0 0)] (nA h 13 9) mc1 ms1 (RV P1))
    (k8 : ∀ (h1 : PH), P1 h1 → hN h1 = (hN h + 1) + mc1 → hS h1 = (hS h + 9) + ms1 → RR G nc ns m_X5_init 29 [some (.ref l0)] [.ref (hN h), .ref l0] h1 Z) :
    RR G nc ns m_X5_init 17 [some (.ref l0)] [] h Z := by
  refine r_aload_n dX5_init_17 rfl ?_
  refine r_new (c := 3) dX5_init_18 rfl rfl (by decide) cl_RX5_18 in_RX3 it_RX3 (c1) (c2) ?_
  refine r_dup dX5_init_21 rfl ?_
  refine r_aload_n dX5_init_22 rfl ?_
  refine r_getR (c := 5) (k := 0) dX5_init_23 rfl rfl (by decide) fl_RX5_14 (c3) rfl (c4) ?_
  refine r_callI (mc := mc1) (ms := ms1) dX5_init_26 ck_X3_init iv_X3_init rfl rfl lk_RX5_20 (by decide) (by decide) (As := [.ref (hR (nA h 13 9) l0 0)]) rfl rfl (Nat.le_of_ble_eq_true rfl) (Or.inr (c5)) (Or.inr (c6)) (e7) ?_
  rintro v1 h1 ⟨rfl, z1⟩ n1 t1
  exact k8 h1 z1 n1 t1

set_option maxRecDepth 20000 in
set_option maxHeartbeats 2000000 in
theorem s_X5_init_29 {G : GG} {nc ns : Nat} {h : PH} {Z : Option Value → PH → Prop} {l0 : Nat} {s0 : Nat} {s1 : Nat}
    (c1 : hK h s0 = 15)
    (c2 : s1 ≠ 0)
    (k3 : RR G nc ns m_X5_init 32 [some (.ref l0)] [] (sR h s0 1 s1) Z) :
    RR G nc ns m_X5_init 29 [some (.ref l0)] [.ref s1, .ref s0] h Z := by
  refine r_putR (c := 5) (k := 1) dX5_init_29 rfl rfl (by decide) fl_RX5_23 (c1) (Or.inr ⟨rfl, rfl, rfl⟩) rfl (c2) ?_
  exact k3

set_option maxRecDepth 20000 in
set_option maxHeartbeats 2000000 in
theorem s_X5_init_32 {G : GG} {nc ns : Nat} {h : PH} {Z : Option Value → PH → Prop} {l0 : Nat} {mc1 : Nat} {ms1 : Nat} {P1 : PH → Prop}
    (c1 : (hN h) + 1 ≤ nc)
    (c2 : (hS h) + 8 ≤ ns)
    (c3 : hK (nA h 10 8) l0 = 15)
    (c4 : (hR (nA h 10 8) l0 0) ≠ 0)
    (c5 : (hR (nA h 10 8) l0 1) ≠ 0)
    (c6 : (hN h + 1) + mc1 ≤ nc)
    (c7 : (hS h + 8) + ms1 ≤ ns)
    (e8 : Ev G m_X0_init [.ref (hN h), .ref (hR (nA h 10 8) l0 0), .ref (hR (nA h 10 8) l0 1)] (nA h 10 8) mc1 ms1 (RV P1))
    (k9 : ∀ (h1 : PH), P1 h1 → hN h1 = (hN h + 1) + mc1 → hS h1 = (hS h + 8) + ms1 → RR G nc ns m_X5_init 48 [some (.ref l0)] [.ref (hN h), .ref l0] h1 Z) :
    RR G nc ns m_X5_init 32 [some (.ref l0)] [] h Z := by
  refine r_aload_n dX5_init_32 rfl ?_
  refine r_new (c := 0) dX5_init_33 rfl rfl (by decide) cl_RX5_27 in_RX0 it_RX0 (c1) (c2) ?_
  refine r_dup dX5_init_36 rfl ?_
  refine r_aload_n dX5_init_37 rfl ?_
  refine r_getR (c := 5) (k := 0) dX5_init_38 rfl rfl (by decide) fl_RX5_14 (c3) rfl (c4) ?_
  refine r_aload_n dX5_init_41 rfl ?_
  refine r_getR (c := 5) (k := 1) dX5_init_42 rfl rfl (by decide) fl_RX5_23 (c3) rfl (c5) ?_
  refine r_callI (mc := mc1) (ms := ms1) dX5_init_45 ck_X0_init iv_X0_init rfl rfl lk_RX5_29 (by decide) (by decide) (As := [.ref (hR (nA h 10 8) l0 0), .ref (hR (nA h 10 8) l0 1)]) rfl rfl (Nat.le_of_ble_eq_true rfl) (Or.inr (c6)) (Or.inr (c7)) (e8) ?_
  rintro v1 h1 ⟨rfl, z1⟩ n1 t1
  exact k9 h1 z1 n1 t1

set_option maxRecDepth 20000 in
set_option maxHeartbeats 2000000 in
theorem s_X5_init_48 {G : GG} {nc ns : Nat} {h : PH} {Z : Option Value → PH → Prop} {l0 : Nat} {s0 : Nat} {s1 : Nat}
    (c1 : hK h s0 = 15)
    (c2 : s1 ≠ 0)
    (k3 : RR G nc ns m_X5_init 51 [some (.ref l0)] [] (sR h s0 2 s1) Z) :
    RR G nc ns m_X5_init 48 [some (.ref l0)] [.ref s1, .ref s0] h Z := by
  refine r_putR (c := 5) (k := 2) dX5_init_48 rfl rfl (by decide) fl_RX5_32 (c1) (Or.inr ⟨rfl, rfl, rfl⟩) rfl (c2) ?_
  exact k3

set_option maxRecDepth 20000 in
set_option maxHeartbeats 2000000 in
theorem s_X5_init_51 {G : GG} {nc ns : Nat} {h : PH} {Z : Option Value → PH → Prop} {l0 : Nat} {mc1 : Nat} {ms1 : Nat} {P1 : PH → Prop}
    (c1 : (hN h) + 1 ≤ nc)
    (c2 : (hS h) + 7 ≤ ns)
    (c3 : hK (nA h 14 7) l0 = 15)
    (c4 : (hR (nA h 14 7) l0 0) ≠ 0)
    (c5 : (hR (nA h 14 7) l0 2) ≠ 0)
    (c6 : (hN h + 1) + mc1 ≤ nc)
    (c7 : (hS h + 7) + ms1 ≤ ns)
    (e8 : Ev G m_X4_init [.ref (hN h), .ref (hR (nA h 14 7) l0 0), .ref (hR (nA h 14 7) l0 2)] (nA h 14 7) mc1 ms1 (RV P1))
    (k9 : ∀ (h1 : PH), P1 h1 → hN h1 = (hN h + 1) + mc1 → hS h1 = (hS h + 7) + ms1 → RR G nc ns m_X5_init 67 [some (.ref l0)] [.ref (hN h), .ref l0] h1 Z) :
    RR G nc ns m_X5_init 51 [some (.ref l0)] [] h Z := by
  refine r_aload_n dX5_init_51 rfl ?_
  refine r_new (c := 4) dX5_init_52 rfl rfl (by decide) cl_RX5_36 in_RX4 it_RX4 (c1) (c2) ?_
  refine r_dup dX5_init_55 rfl ?_
  refine r_aload_n dX5_init_56 rfl ?_
  refine r_getR (c := 5) (k := 0) dX5_init_57 rfl rfl (by decide) fl_RX5_14 (c3) rfl (c4) ?_
  refine r_aload_n dX5_init_60 rfl ?_
  refine r_getR (c := 5) (k := 2) dX5_init_61 rfl rfl (by decide) fl_RX5_32 (c3) rfl (c5) ?_
  refine r_callI (mc := mc1) (ms := ms1) dX5_init_64 ck_X4_init iv_X4_init rfl rfl lk_RX5_38 (by decide) (by decide) (As := [.ref (hR (nA h 14 7) l0 0), .ref (hR (nA h 14 7) l0 2)]) rfl rfl (Nat.le_of_ble_eq_true rfl) (Or.inr (c6)) (Or.inr (c7)) (e8) ?_
  rintro v1 h1 ⟨rfl, z1⟩ n1 t1
  exact k9 h1 z1 n1 t1

set_option maxRecDepth 20000 in
set_option maxHeartbeats 2000000 in
theorem s_X5_init_67 {G : GG} {nc ns : Nat} {h : PH} {Z : Option Value → PH → Prop} {l0 : Nat} {s0 : Nat} {s1 : Nat}
    (c1 : hK h s0 = 15)
    (c2 : s1 ≠ 0)
    (k3 : RR G nc ns m_X5_init 70 [some (.ref l0)] [] (sR h s0 3 s1) Z) :
    RR G nc ns m_X5_init 67 [some (.ref l0)] [.ref s1, .ref s0] h Z := by
  refine r_putR (c := 5) (k := 3) dX5_init_67 rfl rfl (by decide) fl_RX5_41 (c1) (Or.inr ⟨rfl, rfl, rfl⟩) rfl (c2) ?_
  exact k3

set_option maxRecDepth 20000 in
set_option maxHeartbeats 2000000 in
theorem s_X5_init_70 {G : GG} {nc ns : Nat} {h : PH} {Z : Option Value → PH → Prop} {l0 : Nat} {mc1 : Nat} {ms1 : Nat} {P1 : PH → Prop}
    (c1 : (hN h) + 1 ≤ nc)
    (c2 : (hS h) + 4 ≤ ns)
    (c3 : (hN h + 1) + mc1 ≤ nc)
    (c4 : (hS h + 4) + ms1 ≤ ns)
    (e5 : Ev G m_X1_init [.ref (hN h), .int 40] (nA h 11 4) mc1 ms1 (RV P1))
    (k6 : ∀ (h1 : PH), P1 h1 → hN h1 = (hN h + 1) + mc1 → hS h1 = (hS h + 4) + ms1 → RR G nc ns m_X5_init 80 [some (.ref l0)] [.ref (hN h), .ref l0] h1 Z) :
    RR G nc ns m_X5_init 70 [some (.ref l0)] [] h Z := by
  refine r_aload_n dX5_init_70 rfl ?_
  refine r_new (c := 1) dX5_init_71 rfl rfl (by decide) cl_RX5_7 in_RX1 it_RX1 (c1) (c2) ?_
  refine r_dup dX5_init_74 rfl ?_
  refine r_bipush (v := 40) dX5_init_75 (by decide) ?_
  refine r_callI (mc := mc1) (ms := ms1) dX5_init_77 ck_X1_init iv_X1_init rfl rfl lk_RX5_11 (by decide) (by decide) (As := [.int 40]) rfl rfl (Nat.le_of_ble_eq_true rfl) (Or.inr (c3)) (Or.inr (c4)) (e5) ?_
  rintro v1 h1 ⟨rfl, z1⟩ n1 t1
  exact k6 h1 z1 n1 t1

set_option maxRecDepth 20000 in
set_option maxHeartbeats 2000000 in
theorem s_X5_init_80 {G : GG} {nc ns : Nat} {h : PH} {Z : Option Value → PH → Prop} {l0 : Nat} {s0 : Nat} {s1 : Nat}
    (c1 : hK h s0 = 15)
    (c2 : s1 ≠ 0)
    (k3 : RR G nc ns m_X5_init 83 [some (.ref l0)] [] (sR h s0 4 s1) Z) :
    RR G nc ns m_X5_init 80 [some (.ref l0)] [.ref s1, .ref s0] h Z := by
  refine r_putR (c := 5) (k := 4) dX5_init_80 rfl rfl (by decide) fl_RX5_45 (c1) (Or.inr ⟨rfl, rfl, rfl⟩) rfl (c2) ?_
  exact k3

set_option maxRecDepth 20000 in
set_option maxHeartbeats 2000000 in
theorem s_X5_init_83 {G : GG} {nc ns : Nat} {h : PH} {Z : Option Value → PH → Prop} {l0 : Nat} {mc1 : Nat} {ms1 : Nat} {P1 : PH → Prop}
    (c1 : (hN h) + 1 ≤ nc)
    (c2 : (hS h) + 9 ≤ ns)
    (c3 : hK (nA h 13 9) l0 = 15)
    (c4 : (hR (nA h 13 9) l0 4) ≠ 0)
    (c5 : (hN h + 1) + mc1 ≤ nc)
    (c6 : (hS h + 9) + ms1 ≤ ns)
    (e7 : Ev G m_X3_init [.ref (hN h), .ref (hR (nA h 13 9) l0 4)] (nA h 13 9) mc1 ms1 (RV P1))
    (k8 : ∀ (h1 : PH), P1 h1 → hN h1 = (hN h + 1) + mc1 → hS h1 = (hS h + 9) + ms1 → RR G nc ns m_X5_init 95 [some (.ref l0)] [.ref (hN h), .ref l0] h1 Z) :
    RR G nc ns m_X5_init 83 [some (.ref l0)] [] h Z := by
  refine r_aload_n dX5_init_83 rfl ?_
  refine r_new (c := 3) dX5_init_84 rfl rfl (by decide) cl_RX5_18 in_RX3 it_RX3 (c1) (c2) ?_
  refine r_dup dX5_init_87 rfl ?_
  refine r_aload_n dX5_init_88 rfl ?_
  refine r_getR (c := 5) (k := 4) dX5_init_89 rfl rfl (by decide) fl_RX5_45 (c3) rfl (c4) ?_
  refine r_callI (mc := mc1) (ms := ms1) dX5_init_92 ck_X3_init iv_X3_init rfl rfl lk_RX5_20 (by decide) (by decide) (As := [.ref (hR (nA h 13 9) l0 4)]) rfl rfl (Nat.le_of_ble_eq_true rfl) (Or.inr (c5)) (Or.inr (c6)) (e7) ?_
  rintro v1 h1 ⟨rfl, z1⟩ n1 t1
  exact k8 h1 z1 n1 t1

set_option maxRecDepth 20000 in
set_option maxHeartbeats 2000000 in
theorem s_X5_init_95 {G : GG} {nc ns : Nat} {h : PH} {Z : Option Value → PH → Prop} {l0 : Nat} {s0 : Nat} {s1 : Nat}
    (c1 : hK h s0 = 15)
    (c2 : s1 ≠ 0)
    (k3 : RR G nc ns m_X5_init 98 [some (.ref l0)] [] (sR h s0 5 s1) Z) :
    RR G nc ns m_X5_init 95 [some (.ref l0)] [.ref s1, .ref s0] h Z := by
  refine r_putR (c := 5) (k := 5) dX5_init_95 rfl rfl (by decide) fl_RX5_48 (c1) (Or.inr ⟨rfl, rfl, rfl⟩) rfl (c2) ?_
  exact k3

set_option maxRecDepth 20000 in
set_option maxHeartbeats 2000000 in
theorem s_X5_init_98 {G : GG} {nc ns : Nat} {h : PH} {Z : Option Value → PH → Prop} {l0 : Nat} {mc1 : Nat} {ms1 : Nat} {P1 : PH → Prop}
    (c1 : (hN h) + 1 ≤ nc)
    (c2 : (hS h) + 6 ≤ ns)
    (c3 : hK (nA h 12 6) l0 = 15)
    (c4 : (hR (nA h 12 6) l0 4) ≠ 0)
    (c5 : (hR (nA h 12 6) l0 5) ≠ 0)
    (c6 : (hN h + 1) + mc1 ≤ nc)
    (c7 : (hS h + 6) + ms1 ≤ ns)
    (e8 : Ev G m_X2_init [.ref (hN h), .ref (hR (nA h 12 6) l0 4), .ref (hR (nA h 12 6) l0 5)] (nA h 12 6) mc1 ms1 (RV P1))
    (k9 : ∀ (h1 : PH), P1 h1 → hN h1 = (hN h + 1) + mc1 → hS h1 = (hS h + 6) + ms1 → RR G nc ns m_X5_init 114 [some (.ref l0)] [.ref (hN h), .ref l0] h1 Z) :
    RR G nc ns m_X5_init 98 [some (.ref l0)] [] h Z := by
  refine r_aload_n dX5_init_98 rfl ?_
  refine r_new (c := 2) dX5_init_99 rfl rfl (by decide) cl_RX5_51 in_RX2 it_RX2 (c1) (c2) ?_
  refine r_dup dX5_init_102 rfl ?_
  refine r_aload_n dX5_init_103 rfl ?_
  refine r_getR (c := 5) (k := 4) dX5_init_104 rfl rfl (by decide) fl_RX5_45 (c3) rfl (c4) ?_
  refine r_aload_n dX5_init_107 rfl ?_
  refine r_getR (c := 5) (k := 5) dX5_init_108 rfl rfl (by decide) fl_RX5_48 (c3) rfl (c5) ?_
  refine r_callI (mc := mc1) (ms := ms1) dX5_init_111 ck_X2_init iv_X2_init rfl rfl lk_RX5_53 (by decide) (by decide) (As := [.ref (hR (nA h 12 6) l0 4), .ref (hR (nA h 12 6) l0 5)]) rfl rfl (Nat.le_of_ble_eq_true rfl) (Or.inr (c6)) (Or.inr (c7)) (e8) ?_
  rintro v1 h1 ⟨rfl, z1⟩ n1 t1
  exact k9 h1 z1 n1 t1

set_option maxRecDepth 20000 in
set_option maxHeartbeats 2000000 in
theorem s_X5_init_114 {G : GG} {nc ns : Nat} {h : PH} {Z : Option Value → PH → Prop} {l0 : Nat} {s0 : Nat} {s1 : Nat}
    (c1 : hK h s0 = 15)
    (c2 : s1 ≠ 0)
    (k3 : RR G nc ns m_X5_init 117 [some (.ref l0)] [] (sR h s0 6 s1) Z) :
    RR G nc ns m_X5_init 114 [some (.ref l0)] [.ref s1, .ref s0] h Z := by
  refine r_putR (c := 5) (k := 6) dX5_init_114 rfl rfl (by decide) fl_RX5_54 (c1) (Or.inr ⟨rfl, rfl, rfl⟩) rfl (c2) ?_
  exact k3

set_option maxRecDepth 20000 in
set_option maxHeartbeats 2000000 in
theorem s_X5_init_117 {G : GG} {nc ns : Nat} {h : PH} {Z : Option Value → PH → Prop} {l0 : Nat}
    (k1 : Z none h) :
    RR G nc ns m_X5_init 117 [some (.ref l0)] [] h Z := by
  exact r_return dX5_init_117 rfl (k1)

set_option maxRecDepth 20000 in
set_option maxHeartbeats 2000000 in
theorem s_X5_node_0 {G : GG} {nc ns : Nat} {h : PH} {Z : Option Value → PH → Prop} {l0 : Nat} {l1 : Int32} {P1 : Int32 → PH → Prop}
    (c1 : hK h l0 = 15)
    (c2 : (hR h l0 0) ≠ 0)
    (e3 : Ev G m_X1_add [.ref (hR h l0 0), .int l1] h 0 0 (RI P1))
    (c4 : hK h (hR h l0 0) = 11)
    (k5 : ∀ (x1 : Int32) (h1 : PH), P1 x1 h1 → hN h1 = (hN h) → hS h1 = (hS h) → RR G nc ns m_X5_node 8 [some (.ref l0), some (.int l1)] [.int x1] h1 Z) :
    RR G nc ns m_X5_node 0 [some (.ref l0), some (.int l1)] [] h Z := by
  refine r_aload_n dX5_node_0 rfl ?_
  refine r_getR (c := 5) (k := 0) dX5_node_1 rfl rfl (by decide) fl_RX5_14 (c1) rfl (c2) ?_
  refine r_iload_n dX5_node_4 rfl ?_
  refine r_callV (c := 1) (mc := 0) (ms := 0) dX5_node_5 ck_X1_add iv_X1_add sl_X1_add lk_RX5_58 rfl rfl (c4) (by decide) (by decide) (As := [.int l1]) rfl rfl (Nat.le_of_ble_eq_true rfl) (Or.inl rfl) (Or.inl rfl) (e3) ?_
  rintro v1 h1 ⟨x1, rfl, z1⟩ n1 t1
  exact k5 x1 h1 z1 n1 t1

set_option maxRecDepth 20000 in
set_option maxHeartbeats 2000000 in
theorem s_X5_node_8 {G : GG} {nc ns : Nat} {h : PH} {Z : Option Value → PH → Prop} {l0 : Nat} {l1 : Int32} {s0 : Int32}
    (k1 : Z (some (.int s0)) h) :
    RR G nc ns m_X5_node 8 [some (.ref l0), some (.int l1)] [.int s0] h Z := by
  exact r_ireturn dX5_node_8 rfl (k1)

set_option maxRecDepth 20000 in
set_option maxHeartbeats 2000000 in
theorem s_X5_edge_0 {G : GG} {nc ns : Nat} {h : PH} {Z : Option Value → PH → Prop} {l0 : Nat} {l1 : Int32} {l2 : Int32} {l3 : Int32} {x1 : Int32} {x2 : Int32} {x3 : Int32} {P4 : PH → Prop} {P5 : PH → Prop}
    (c1 : hK h l0 = 15)
    (c2 : (hR h l0 0) ≠ 0)
    (e3 : Ev G m_X1_holds [.ref (hR h l0 0), .int 0, .int l1] h 0 0 (Ret (some (.int x1)) h))
    (c4 : hK h (hR h l0 0) = 11)
    (k5 : (x1 = 0) → Z (some (.int (-1))) h)
    (e6 : (¬ x1 = 0) → Ev G m_X1_holds [.ref (hR h l0 0), .int 1, .int l2] h 0 0 (Ret (some (.int x2)) h))
    (e7 : (¬ x1 = 0) → (¬ x2 = 0) → Ev G m_X1_joins [.ref (hR h l0 0), .int l1, .int l2] h 0 0 (Ret (some (.int x3)) h))
    (e8 : (¬ x1 = 0) → (¬ x2 = 0) → (¬ x3 = l3) → (l3 = 0) → Ev G m_X1_unjoin [.ref (hR h l0 0), .int l1, .int l2] h 0 0 (RV P4))
    (k9 : (¬ x1 = 0) → (¬ x2 = 0) → (¬ x3 = l3) → (l3 = 0) → ∀ (h4 : PH), P4 h4 → hN h4 = (hN h) → hS h4 = (hS h) → RR G nc ns m_X5_edge 70 [some (.ref l0), some (.int l1), some (.int l2), some (.int l3)] [] h4 Z)
    (e10 : (¬ x1 = 0) → (¬ x2 = 0) → (¬ x3 = l3) → (¬ l3 = 0) → Ev G m_X1_joinAll [.ref (hR h l0 0), .long (1 <<< (Int32.toInt64 l1 &&& 63)), .long (1 <<< (Int32.toInt64 l2 &&& 63))] h 0 0 (RV P5))
    (k11 : (¬ x1 = 0) → (¬ x2 = 0) → (¬ x3 = l3) → (¬ l3 = 0) → ∀ (h5 : PH), P5 h5 → hN h5 = (hN h) → hS h5 = (hS h) → RR G nc ns m_X5_edge 58 [some (.ref l0), some (.int l1), some (.int l2), some (.int l3)] [] h5 Z)
    (k12 : (¬ x1 = 0) → (¬ x2 = 0) → (x3 = l3) → Z (some (.int 0)) h)
    (k13 : (¬ x1 = 0) → (x2 = 0) → Z (some (.int (-1))) h) :
    RR G nc ns m_X5_edge 0 [some (.ref l0), some (.int l1), some (.int l2), some (.int l3)] [] h Z := by
  refine r_aload_n dX5_edge_0 rfl ?_
  refine r_getR (c := 5) (k := 0) dX5_edge_1 rfl rfl (by decide) fl_RX5_14 (c1) rfl (c2) ?_
  refine r_iconst (v := 0) dX5_edge_4 (by decide) ?_
  refine r_iload_n dX5_edge_5 rfl ?_
  refine r_callV1 (c := 1) (mc := 0) (ms := 0) dX5_edge_6 ck_X1_holds iv_X1_holds sl_X1_holds lk_RX5_62 rfl rfl (c4) (by decide) (by decide) (As := [.int 0, .int l1]) rfl rfl (Nat.le_of_ble_eq_true rfl) (Or.inl rfl) (Or.inl rfl) (e3) ?_
  refine r_if_eq 24 dX5_edge_9 (by decide) (fun q1 => ?_) (fun q1 => ?_)
  · refine r_iconst (v := (-1)) dX5_edge_24 (by decide) ?_
    exact r_ireturn dX5_edge_25 rfl (k5 q1)
  · refine r_aload_n dX5_edge_12 rfl ?_
    refine r_getR (c := 5) (k := 0) dX5_edge_13 rfl rfl (by decide) fl_RX5_14 (c1) rfl (c2) ?_
    refine r_iconst (v := 1) dX5_edge_16 (by decide) ?_
    refine r_iload_n dX5_edge_17 rfl ?_
    refine r_callV1 (c := 1) (mc := 0) (ms := 0) dX5_edge_18 ck_X1_holds iv_X1_holds sl_X1_holds lk_RX5_62 rfl rfl (c4) (by decide) (by decide) (As := [.int 1, .int l2]) rfl rfl (Nat.le_of_ble_eq_true rfl) (Or.inl rfl) (Or.inl rfl) (e6 q1) ?_
    refine r_if_ne 26 dX5_edge_21 (by decide) (fun q2 => ?_) (fun q2 => ?_)
    · refine r_aload_n dX5_edge_26 rfl ?_
      refine r_getR (c := 5) (k := 0) dX5_edge_27 rfl rfl (by decide) fl_RX5_14 (c1) rfl (c2) ?_
      refine r_iload_n dX5_edge_30 rfl ?_
      refine r_iload_n dX5_edge_31 rfl ?_
      refine r_callV1 (c := 1) (mc := 0) (ms := 0) dX5_edge_32 ck_X1_joins iv_X1_joins sl_X1_joins lk_RX5_66 rfl rfl (c4) (by decide) (by decide) (As := [.int l1, .int l2]) rfl rfl (Nat.le_of_ble_eq_true rfl) (Or.inl rfl) (Or.inl rfl) (e7 q1 q2) ?_
      refine r_iload_n dX5_edge_35 rfl ?_
      refine r_icmp_ne 41 dX5_edge_36 (by decide) (fun q3 => ?_) (fun q3 => ?_)
      · refine r_iload_n dX5_edge_41 rfl ?_
        refine r_if_eq 61 dX5_edge_42 (by decide) (fun q4 => ?_) (fun q4 => ?_)
        · refine r_aload_n dX5_edge_61 rfl ?_
          refine r_getR (c := 5) (k := 0) dX5_edge_62 rfl rfl (by decide) fl_RX5_14 (c1) rfl (c2) ?_
          refine r_iload_n dX5_edge_65 rfl ?_
          refine r_iload_n dX5_edge_66 rfl ?_
          refine r_callV (c := 1) (mc := 0) (ms := 0) dX5_edge_67 ck_X1_unjoin iv_X1_unjoin sl_X1_unjoin lk_RX5_73 rfl rfl (c4) (by decide) (by decide) (As := [.int l1, .int l2]) rfl rfl (Nat.le_of_ble_eq_true rfl) (Or.inl rfl) (Or.inl rfl) (e8 q1 q2 q3 q4) ?_
          rintro v4 h4 ⟨rfl, z4⟩ n4 t4
          exact k9 q1 q2 q3 q4 h4 z4 n4 t4
        · refine r_aload_n dX5_edge_45 rfl ?_
          refine r_getR (c := 5) (k := 0) dX5_edge_46 rfl rfl (by decide) fl_RX5_14 (c1) rfl (c2) ?_
          refine r_lconst (v := 1) dX5_edge_49 (by decide) ?_
          refine r_iload_n dX5_edge_50 rfl ?_
          refine r_lshl dX5_edge_51 ?_
          refine r_lconst (v := 1) dX5_edge_52 (by decide) ?_
          refine r_iload_n dX5_edge_53 rfl ?_
          refine r_lshl dX5_edge_54 ?_
          refine r_callV (c := 1) (mc := 0) (ms := 0) dX5_edge_55 ck_X1_joinAll iv_X1_joinAll sl_X1_joinAll lk_RX5_69 rfl rfl (c4) (by decide) (by decide) (As := [.long (1 <<< (Int32.toInt64 l1 &&& 63)), .long (1 <<< (Int32.toInt64 l2 &&& 63))]) rfl rfl (Nat.le_of_ble_eq_true rfl) (Or.inl rfl) (Or.inl rfl) (e10 q1 q2 q3 q4) ?_
          rintro v5 h5 ⟨rfl, z5⟩ n5 t5
          exact k11 q1 q2 q3 q4 h5 z5 n5 t5
      · refine r_iconst (v := 0) dX5_edge_39 (by decide) ?_
        exact r_ireturn dX5_edge_40 rfl (k12 q1 q2 q3)
    · refine r_iconst (v := (-1)) dX5_edge_24 (by decide) ?_
      exact r_ireturn dX5_edge_25 rfl (k13 q1 q2)

set_option maxRecDepth 20000 in
set_option maxHeartbeats 2000000 in
theorem s_X5_edge_58 {G : GG} {nc ns : Nat} {h : PH} {Z : Option Value → PH → Prop} {l0 : Nat} {l1 : Int32} {l2 : Int32} {l3 : Int32}
    (k1 : RR G nc ns m_X5_edge 70 [some (.ref l0), some (.int l1), some (.int l2), some (.int l3)] [] h Z) :
    RR G nc ns m_X5_edge 58 [some (.ref l0), some (.int l1), some (.int l2), some (.int l3)] [] h Z := by
  refine r_goto (tgt := 70) dX5_edge_58 (by decide) ?_
  exact k1

set_option maxRecDepth 20000 in
set_option maxHeartbeats 2000000 in
theorem s_X5_edge_70 {G : GG} {nc ns : Nat} {h : PH} {Z : Option Value → PH → Prop} {l0 : Nat} {l1 : Int32} {l2 : Int32} {l3 : Int32}
    (k1 : Z (some (.int 1)) h) :
    RR G nc ns m_X5_edge 70 [some (.ref l0), some (.int l1), some (.int l2), some (.int l3)] [] h Z := by
  refine r_iconst (v := 1) dX5_edge_70 (by decide) ?_
  exact r_ireturn dX5_edge_71 rfl (k1)

set_option maxRecDepth 20000 in
set_option maxHeartbeats 2000000 in
theorem s_X5_count_0 {G : GG} {nc ns : Nat} {h : PH} {Z : Option Value → PH → Prop} {l0 : Nat} {l1 : Int32} {P1 : PH → Prop} {x2 : Int32} {x3 : Int32} {x4 : Int32} {P5 : PH → Prop} {P6 : PH → Prop} {P7 : PH → Prop} {P8 : PH → Prop} {P9 : PH → Prop} {P10 : PH → Prop} {x11 : Int32} {P12 : PH → Prop} {P13 : PH → Prop}
    (c1 : hK h l0 = 15)
    (c2 : (hR h l0 1) ≠ 0)
    (e3 : (l1 < 0 ∨ 11 < l1) → Ev G m_X3_refresh [.ref (hR h l0 1)] h 0 0 (RV P1))
    (c4 : hK h (hR h l0 1) = 13)
    (k5 : (l1 < 0 ∨ 11 < l1) → ∀ (h1 : PH), P1 h1 → hN h1 = (hN h) → hS h1 = (hS h) → RR G nc ns m_X5_count 153 [some (.ref l0), some (.int l1)] [] h1 Z)
    (c6 : (hR h l0 0) ≠ 0)
    (e7 : (l1 = 0) → Ev G m_X1_sizeOf [.ref (hR h l0 0), .int 0] h 0 0 (Ret (some (.int x2)) h))
    (c8 : hK h (hR h l0 0) = 11)
    (k9 : (l1 = 0) → Z (some (.int x2)) h)
    (e10 : (l1 = 1) → Ev G m_X1_sizeOf [.ref (hR h l0 0), .int 1] h 0 0 (Ret (some (.int x3)) h))
    (k11 : (l1 = 1) → Z (some (.int x3)) h)
    (e12 : (l1 = 2) → Ev G m_X1_edges [.ref (hR h l0 0)] h 0 0 (Ret (some (.int x4)) h))
    (k13 : (l1 = 2) → Z (some (.int x4)) h)
    (e14 : (l1 = 3) → Ev G m_X3_refresh [.ref (hR h l0 1)] h 0 0 (RV P5))
    (k15 : (l1 = 3) → ∀ (h5 : PH), P5 h5 → hN h5 = (hN h) → hS h5 = (hS h) → RR G nc ns m_X5_count 153 [some (.ref l0), some (.int l1)] [] h5 Z)
    (e16 : (l1 = 4) → Ev G m_X3_refresh [.ref (hR h l0 1)] h 0 0 (RV P6))
    (k17 : (l1 = 4) → ∀ (h6 : PH), P6 h6 → hN h6 = (hN h) → hS h6 = (hS h) → RR G nc ns m_X5_count 153 [some (.ref l0), some (.int l1)] [] h6 Z)
    (e18 : (l1 = 5) → Ev G m_X3_refresh [.ref (hR h l0 1)] h 0 0 (RV P7))
    (k19 : (l1 = 5) → ∀ (h7 : PH), P7 h7 → hN h7 = (hN h) → hS h7 = (hS h) → RR G nc ns m_X5_count 153 [some (.ref l0), some (.int l1)] [] h7 Z)
    (e20 : (l1 = 6) → Ev G m_X3_refresh [.ref (hR h l0 1)] h 0 0 (RV P8))
    (k21 : (l1 = 6) → ∀ (h8 : PH), P8 h8 → hN h8 = (hN h) → hS h8 = (hS h) → RR G nc ns m_X5_count 153 [some (.ref l0), some (.int l1)] [] h8 Z)
    (e22 : (l1 = 7) → Ev G m_X3_refresh [.ref (hR h l0 1)] h 0 0 (RV P9))
    (k23 : (l1 = 7) → ∀ (h9 : PH), P9 h9 → hN h9 = (hN h) → hS h9 = (hS h) → RR G nc ns m_X5_count 153 [some (.ref l0), some (.int l1)] [] h9 Z)
    (e24 : (l1 = 8) → Ev G m_X3_refresh [.ref (hR h l0 1)] h 0 0 (RV P10))
    (k25 : (l1 = 8) → ∀ (h10 : PH), P10 h10 → hN h10 = (hN h) → hS h10 = (hS h) → RR G nc ns m_X5_count 153 [some (.ref l0), some (.int l1)] [] h10 Z)
    (c26 : (hR h l0 4) ≠ 0)
    (e27 : (l1 = 9) → Ev G m_X1_sizeOf [.ref (hR h l0 4), .int 0] h 0 0 (Ret (some (.int x11)) h))
    (c28 : hK h (hR h l0 4) = 11)
    (k29 : (l1 = 9) → Z (some (.int x11)) h)
    (c30 : (hR h l0 5) ≠ 0)
    (e31 : (l1 = 10) → Ev G m_X3_refresh [.ref (hR h l0 5)] h 0 0 (RV P12))
    (c32 : hK h (hR h l0 5) = 13)
    (k33 : (l1 = 10) → ∀ (h12 : PH), P12 h12 → hN h12 = (hN h) → hS h12 = (hS h) → RR G nc ns m_X5_count 106 [some (.ref l0), some (.int l1)] [] h12 Z)
    (e34 : (l1 = 11) → Ev G m_X3_refresh [.ref (hR h l0 5)] h 0 0 (RV P13))
    (k35 : (l1 = 11) → ∀ (h13 : PH), P13 h13 → hN h13 = (hN h) → hS h13 = (hS h) → RR G nc ns m_X5_count 106 [some (.ref l0), some (.int l1)] [] h13 Z) :
    RR G nc ns m_X5_count 0 [some (.ref l0), some (.int l1)] [] h Z := by
  refine r_iload_n dX5_count_0 rfl ?_
  by_cases q1 : l1 < 0 ∨ 11 < l1
  · refine r_tableOut (tgt := 146) dX5_count_1 (sw_out (by decide) (by decide) q1) (by decide) ?_
    refine r_aload_n dX5_count_146 rfl ?_
    refine r_getR (c := 5) (k := 1) dX5_count_147 rfl rfl (by decide) fl_RX5_23 (c1) rfl (c2) ?_
    refine r_callV (c := 3) (mc := 0) (ms := 0) dX5_count_150 ck_X3_refresh iv_X3_refresh sl_X3_refresh lk_RX5_84 rfl rfl (c4) (by decide) (by decide) (As := []) rfl rfl (Nat.le_of_ble_eq_true rfl) (Or.inl rfl) (Or.inl rfl) (e3 q1) ?_
    rintro v1 h1 ⟨rfl, z1⟩ n1 t1
    exact k5 q1 h1 z1 n1 t1
  · rcases sw_in_0_11 q1 with q9 | q9 | q9 | q9 | q9 | q9 | q9 | q9 | q9 | q9 | q9 | q9
    · have q2 : l1 = 0 := q9
      refine r_tableIn (off := 63) (tgt := 64) dX5_count_1 (by rw [q2]; decide) (by rw [q2]; decide) (by rw [q2]; rfl) (by decide) ?_
      refine r_aload_n dX5_count_64 rfl ?_
      refine r_getR (c := 5) (k := 0) dX5_count_65 rfl rfl (by decide) fl_RX5_14 (c1) rfl (c6) ?_
      refine r_iconst (v := 0) dX5_count_68 (by decide) ?_
      refine r_callV1 (c := 1) (mc := 0) (ms := 0) dX5_count_69 ck_X1_sizeOf iv_X1_sizeOf sl_X1_sizeOf lk_RX5_77 rfl rfl (c8) (by decide) (by decide) (As := [.int 0]) rfl rfl (Nat.le_of_ble_eq_true rfl) (Or.inl rfl) (Or.inl rfl) (e7 q2) ?_
      exact r_ireturn dX5_count_72 rfl (k9 q2)
    · have q3 : l1 = 1 := q9
      refine r_tableIn (off := 72) (tgt := 73) dX5_count_1 (by rw [q3]; decide) (by rw [q3]; decide) (by rw [q3]; rfl) (by decide) ?_
      refine r_aload_n dX5_count_73 rfl ?_
      refine r_getR (c := 5) (k := 0) dX5_count_74 rfl rfl (by decide) fl_RX5_14 (c1) rfl (c6) ?_
      refine r_iconst (v := 1) dX5_count_77 (by decide) ?_
      refine r_callV1 (c := 1) (mc := 0) (ms := 0) dX5_count_78 ck_X1_sizeOf iv_X1_sizeOf sl_X1_sizeOf lk_RX5_77 rfl rfl (c8) (by decide) (by decide) (As := [.int 1]) rfl rfl (Nat.le_of_ble_eq_true rfl) (Or.inl rfl) (Or.inl rfl) (e10 q3) ?_
      exact r_ireturn dX5_count_81 rfl (k11 q3)
    · have q4 : l1 = 2 := q9
      refine r_tableIn (off := 81) (tgt := 82) dX5_count_1 (by rw [q4]; decide) (by rw [q4]; decide) (by rw [q4]; rfl) (by decide) ?_
      refine r_aload_n dX5_count_82 rfl ?_
      refine r_getR (c := 5) (k := 0) dX5_count_83 rfl rfl (by decide) fl_RX5_14 (c1) rfl (c6) ?_
      refine r_callV1 (c := 1) (mc := 0) (ms := 0) dX5_count_86 ck_X1_edges iv_X1_edges sl_X1_edges lk_RX5_80 rfl rfl (c8) (by decide) (by decide) (As := []) rfl rfl (Nat.le_of_ble_eq_true rfl) (Or.inl rfl) (Or.inl rfl) (e12 q4) ?_
      exact r_ireturn dX5_count_89 rfl (k13 q4)
    · have q5 : l1 = 3 := q9
      refine r_tableIn (off := 145) (tgt := 146) dX5_count_1 (by rw [q5]; decide) (by rw [q5]; decide) (by rw [q5]; rfl) (by decide) ?_
      refine r_aload_n dX5_count_146 rfl ?_
      refine r_getR (c := 5) (k := 1) dX5_count_147 rfl rfl (by decide) fl_RX5_23 (c1) rfl (c2) ?_
      refine r_callV (c := 3) (mc := 0) (ms := 0) dX5_count_150 ck_X3_refresh iv_X3_refresh sl_X3_refresh lk_RX5_84 rfl rfl (c4) (by decide) (by decide) (As := []) rfl rfl (Nat.le_of_ble_eq_true rfl) (Or.inl rfl) (Or.inl rfl) (e14 q5) ?_
      rintro v5 h5 ⟨rfl, z5⟩ n5 t5
      exact k15 q5 h5 z5 n5 t5
    · have q6 : l1 = 4 := q9
      refine r_tableIn (off := 145) (tgt := 146) dX5_count_1 (by rw [q6]; decide) (by rw [q6]; decide) (by rw [q6]; rfl) (by decide) ?_
      refine r_aload_n dX5_count_146 rfl ?_
      refine r_getR (c := 5) (k := 1) dX5_count_147 rfl rfl (by decide) fl_RX5_23 (c1) rfl (c2) ?_
      refine r_callV (c := 3) (mc := 0) (ms := 0) dX5_count_150 ck_X3_refresh iv_X3_refresh sl_X3_refresh lk_RX5_84 rfl rfl (c4) (by decide) (by decide) (As := []) rfl rfl (Nat.le_of_ble_eq_true rfl) (Or.inl rfl) (Or.inl rfl) (e16 q6) ?_
      rintro v6 h6 ⟨rfl, z6⟩ n6 t6
      exact k17 q6 h6 z6 n6 t6
    · have q7 : l1 = 5 := q9
      refine r_tableIn (off := 145) (tgt := 146) dX5_count_1 (by rw [q7]; decide) (by rw [q7]; decide) (by rw [q7]; rfl) (by decide) ?_
      refine r_aload_n dX5_count_146 rfl ?_
      refine r_getR (c := 5) (k := 1) dX5_count_147 rfl rfl (by decide) fl_RX5_23 (c1) rfl (c2) ?_
      refine r_callV (c := 3) (mc := 0) (ms := 0) dX5_count_150 ck_X3_refresh iv_X3_refresh sl_X3_refresh lk_RX5_84 rfl rfl (c4) (by decide) (by decide) (As := []) rfl rfl (Nat.le_of_ble_eq_true rfl) (Or.inl rfl) (Or.inl rfl) (e18 q7) ?_
      rintro v7 h7 ⟨rfl, z7⟩ n7 t7
      exact k19 q7 h7 z7 n7 t7
    · have q8 : l1 = 6 := q9
      refine r_tableIn (off := 145) (tgt := 146) dX5_count_1 (by rw [q8]; decide) (by rw [q8]; decide) (by rw [q8]; rfl) (by decide) ?_
      refine r_aload_n dX5_count_146 rfl ?_
      refine r_getR (c := 5) (k := 1) dX5_count_147 rfl rfl (by decide) fl_RX5_23 (c1) rfl (c2) ?_
      refine r_callV (c := 3) (mc := 0) (ms := 0) dX5_count_150 ck_X3_refresh iv_X3_refresh sl_X3_refresh lk_RX5_84 rfl rfl (c4) (by decide) (by decide) (As := []) rfl rfl (Nat.le_of_ble_eq_true rfl) (Or.inl rfl) (Or.inl rfl) (e20 q8) ?_
      rintro v8 h8 ⟨rfl, z8⟩ n8 t8
      exact k21 q8 h8 z8 n8 t8
    · have q9 : l1 = 7 := q9
      refine r_tableIn (off := 145) (tgt := 146) dX5_count_1 (by rw [q9]; decide) (by rw [q9]; decide) (by rw [q9]; rfl) (by decide) ?_
      refine r_aload_n dX5_count_146 rfl ?_
      refine r_getR (c := 5) (k := 1) dX5_count_147 rfl rfl (by decide) fl_RX5_23 (c1) rfl (c2) ?_
      refine r_callV (c := 3) (mc := 0) (ms := 0) dX5_count_150 ck_X3_refresh iv_X3_refresh sl_X3_refresh lk_RX5_84 rfl rfl (c4) (by decide) (by decide) (As := []) rfl rfl (Nat.le_of_ble_eq_true rfl) (Or.inl rfl) (Or.inl rfl) (e22 q9) ?_
      rintro v9 h9 ⟨rfl, z9⟩ n9 t9
      exact k23 q9 h9 z9 n9 t9
    · have q10 : l1 = 8 := q9
      refine r_tableIn (off := 145) (tgt := 146) dX5_count_1 (by rw [q10]; decide) (by rw [q10]; decide) (by rw [q10]; rfl) (by decide) ?_
      refine r_aload_n dX5_count_146 rfl ?_
      refine r_getR (c := 5) (k := 1) dX5_count_147 rfl rfl (by decide) fl_RX5_23 (c1) rfl (c2) ?_
      refine r_callV (c := 3) (mc := 0) (ms := 0) dX5_count_150 ck_X3_refresh iv_X3_refresh sl_X3_refresh lk_RX5_84 rfl rfl (c4) (by decide) (by decide) (As := []) rfl rfl (Nat.le_of_ble_eq_true rfl) (Or.inl rfl) (Or.inl rfl) (e24 q10) ?_
      rintro v10 h10 ⟨rfl, z10⟩ n10 t10
      exact k25 q10 h10 z10 n10 t10
    · have q11 : l1 = 9 := q9
      refine r_tableIn (off := 89) (tgt := 90) dX5_count_1 (by rw [q11]; decide) (by rw [q11]; decide) (by rw [q11]; rfl) (by decide) ?_
      refine r_aload_n dX5_count_90 rfl ?_
      refine r_getR (c := 5) (k := 4) dX5_count_91 rfl rfl (by decide) fl_RX5_45 (c1) rfl (c26) ?_
      refine r_iconst (v := 0) dX5_count_94 (by decide) ?_
      refine r_callV1 (c := 1) (mc := 0) (ms := 0) dX5_count_95 ck_X1_sizeOf iv_X1_sizeOf sl_X1_sizeOf lk_RX5_77 rfl rfl (c28) (by decide) (by decide) (As := [.int 0]) rfl rfl (Nat.le_of_ble_eq_true rfl) (Or.inl rfl) (Or.inl rfl) (e27 q11) ?_
      exact r_ireturn dX5_count_98 rfl (k29 q11)
    · have q12 : l1 = 10 := q9
      refine r_tableIn (off := 98) (tgt := 99) dX5_count_1 (by rw [q12]; decide) (by rw [q12]; decide) (by rw [q12]; rfl) (by decide) ?_
      refine r_aload_n dX5_count_99 rfl ?_
      refine r_getR (c := 5) (k := 5) dX5_count_100 rfl rfl (by decide) fl_RX5_48 (c1) rfl (c30) ?_
      refine r_callV (c := 3) (mc := 0) (ms := 0) dX5_count_103 ck_X3_refresh iv_X3_refresh sl_X3_refresh lk_RX5_84 rfl rfl (c32) (by decide) (by decide) (As := []) rfl rfl (Nat.le_of_ble_eq_true rfl) (Or.inl rfl) (Or.inl rfl) (e31 q12) ?_
      rintro v12 h12 ⟨rfl, z12⟩ n12 t12
      exact k33 q12 h12 z12 n12 t12
    · have q13 : l1 = 11 := q9
      refine r_tableIn (off := 98) (tgt := 99) dX5_count_1 (by rw [q13]; decide) (by rw [q13]; decide) (by rw [q13]; rfl) (by decide) ?_
      refine r_aload_n dX5_count_99 rfl ?_
      refine r_getR (c := 5) (k := 5) dX5_count_100 rfl rfl (by decide) fl_RX5_48 (c1) rfl (c30) ?_
      refine r_callV (c := 3) (mc := 0) (ms := 0) dX5_count_103 ck_X3_refresh iv_X3_refresh sl_X3_refresh lk_RX5_84 rfl rfl (c32) (by decide) (by decide) (As := []) rfl rfl (Nat.le_of_ble_eq_true rfl) (Or.inl rfl) (Or.inl rfl) (e34 q13) ?_
      rintro v13 h13 ⟨rfl, z13⟩ n13 t13
      exact k35 q13 h13 z13 n13 t13

set_option maxRecDepth 20000 in
set_option maxHeartbeats 2000000 in
theorem s_X5_count_106 {G : GG} {nc ns : Nat} {h : PH} {Z : Option Value → PH → Prop} {l0 : Nat} {l1 : Int32} {P1 : PH → Prop}
    (c1 : hK h l0 = 15)
    (c2 : (hR h l0 6) ≠ 0)
    (e3 : Ev G m_X2_refresh [.ref (hR h l0 6)] h 0 0 (RV P1))
    (c4 : hK h (hR h l0 6) = 12)
    (k5 : ∀ (h1 : PH), P1 h1 → hN h1 = (hN h) → hS h1 = (hS h) → RR G nc ns m_X5_count 113 [some (.ref l0), some (.int l1)] [] h1 Z) :
    RR G nc ns m_X5_count 106 [some (.ref l0), some (.int l1)] [] h Z := by
  refine r_aload_n dX5_count_106 rfl ?_
  refine r_getR (c := 5) (k := 6) dX5_count_107 rfl rfl (by decide) fl_RX5_54 (c1) rfl (c2) ?_
  refine r_callV (c := 2) (mc := 0) (ms := 0) dX5_count_110 ck_X2_refresh iv_X2_refresh sl_X2_refresh lk_RX5_87 rfl rfl (c4) (by decide) (by decide) (As := []) rfl rfl (Nat.le_of_ble_eq_true rfl) (Or.inl rfl) (Or.inl rfl) (e3) ?_
  rintro v1 h1 ⟨rfl, z1⟩ n1 t1
  exact k5 h1 z1 n1 t1

set_option maxRecDepth 20000 in
set_option maxHeartbeats 2000000 in
theorem s_X5_count_113 {G : GG} {nc ns : Nat} {h : PH} {Z : Option Value → PH → Prop} {l0 : Nat} {l1 : Int32} {x1 : Int32} {x2 : Int32} {x3 : Int32}
    (c1 : hK h l0 = 15)
    (c2 : (hR h l0 6) ≠ 0)
    (e3 : (¬ l1 = 10) → Ev G m_X2_howManyLevels [.ref (hR h l0 6)] h 0 0 (Ret (some (.int x1)) h))
    (c4 : hK h (hR h l0 6) = 12)
    (k5 : (¬ l1 = 10) → Z (some (.int x1)) h)
    (c6 : (hR h l0 4) ≠ 0)
    (e7 : (l1 = 10) → Ev G m_X1_sizeOf [.ref (hR h l0 4), .int 0] h 0 0 (Ret (some (.int x2)) h))
    (c8 : hK h (hR h l0 4) = 11)
    (c9 : (hR h l0 5) ≠ 0)
    (e10 : (l1 = 10) → Ev G m_X3_pairs [.ref (hR h l0 5)] h 0 0 (Ret (some (.int x3)) h))
    (c11 : hK h (hR h l0 5) = 13)
    (k12 : (l1 = 10) → Z (some (.int (x2 - x3))) h) :
    RR G nc ns m_X5_count 113 [some (.ref l0), some (.int l1)] [] h Z := by
  refine r_iload_n dX5_count_113 rfl ?_
  refine r_bipush (v := 10) dX5_count_114 (by decide) ?_
  refine r_icmp_ne 138 dX5_count_116 (by decide) (fun q1 => ?_) (fun q1 => ?_)
  · refine r_aload_n dX5_count_138 rfl ?_
    refine r_getR (c := 5) (k := 6) dX5_count_139 rfl rfl (by decide) fl_RX5_54 (c1) rfl (c2) ?_
    refine r_callV1 (c := 2) (mc := 0) (ms := 0) dX5_count_142 ck_X2_howManyLevels iv_X2_howManyLevels sl_X2_howManyLevels lk_RX5_91 rfl rfl (c4) (by decide) (by decide) (As := []) rfl rfl (Nat.le_of_ble_eq_true rfl) (Or.inl rfl) (Or.inl rfl) (e3 q1) ?_
    exact r_ireturn dX5_count_145 rfl (k5 q1)
  · refine r_aload_n dX5_count_119 rfl ?_
    refine r_getR (c := 5) (k := 4) dX5_count_120 rfl rfl (by decide) fl_RX5_45 (c1) rfl (c6) ?_
    refine r_iconst (v := 0) dX5_count_123 (by decide) ?_
    refine r_callV1 (c := 1) (mc := 0) (ms := 0) dX5_count_124 ck_X1_sizeOf iv_X1_sizeOf sl_X1_sizeOf lk_RX5_77 rfl rfl (c8) (by decide) (by decide) (As := [.int 0]) rfl rfl (Nat.le_of_ble_eq_true rfl) (Or.inl rfl) (Or.inl rfl) (e7 q1) ?_
    refine r_aload_n dX5_count_127 rfl ?_
    refine r_getR (c := 5) (k := 5) dX5_count_128 rfl rfl (by decide) fl_RX5_48 (c1) rfl (c9) ?_
    refine r_callV1 (c := 3) (mc := 0) (ms := 0) dX5_count_131 ck_X3_pairs iv_X3_pairs sl_X3_pairs lk_RX5_88 rfl rfl (c11) (by decide) (by decide) (As := []) rfl rfl (Nat.le_of_ble_eq_true rfl) (Or.inl rfl) (Or.inl rfl) (e10 q1) ?_
    refine r_isub dX5_count_134 ?_
    refine r_goto (tgt := 145) dX5_count_135 (by decide) ?_
    exact r_ireturn dX5_count_145 rfl (k12 q1)

set_option maxRecDepth 20000 in
set_option maxHeartbeats 2000000 in
theorem s_X5_count_153 {G : GG} {nc ns : Nat} {h : PH} {Z : Option Value → PH → Prop} {l0 : Nat} {l1 : Int32} {P1 : PH → Prop}
    (c1 : hK h l0 = 15)
    (c2 : (hR h l0 2) ≠ 0)
    (e3 : Ev G m_X0_refresh [.ref (hR h l0 2)] h 0 0 (RV P1))
    (c4 : hK h (hR h l0 2) = 10)
    (k5 : ∀ (h1 : PH), P1 h1 → hN h1 = (hN h) → hS h1 = (hS h) → RR G nc ns m_X5_count 160 [some (.ref l0), some (.int l1)] [] h1 Z) :
    RR G nc ns m_X5_count 153 [some (.ref l0), some (.int l1)] [] h Z := by
  refine r_aload_n dX5_count_153 rfl ?_
  refine r_getR (c := 5) (k := 2) dX5_count_154 rfl rfl (by decide) fl_RX5_32 (c1) rfl (c2) ?_
  refine r_callV (c := 0) (mc := 0) (ms := 0) dX5_count_157 ck_X0_refresh iv_X0_refresh sl_X0_refresh lk_RX5_94 rfl rfl (c4) (by decide) (by decide) (As := []) rfl rfl (Nat.le_of_ble_eq_true rfl) (Or.inl rfl) (Or.inl rfl) (e3) ?_
  rintro v1 h1 ⟨rfl, z1⟩ n1 t1
  exact k5 h1 z1 n1 t1

set_option maxRecDepth 20000 in
set_option maxHeartbeats 2000000 in
theorem s_X5_count_160 {G : GG} {nc ns : Nat} {h : PH} {Z : Option Value → PH → Prop} {l0 : Nat} {l1 : Int32} {x1 : Int32}
    (e1 : Ev G m_X5_countFindings [.ref l0, .int l1] h 0 0 (Ret (some (.int x1)) h))
    (c2 : hK h l0 = 15)
    (k3 : Z (some (.int x1)) h) :
    RR G nc ns m_X5_count 160 [some (.ref l0), some (.int l1)] [] h Z := by
  refine r_aload_n dX5_count_160 rfl ?_
  refine r_iload_n dX5_count_161 rfl ?_
  refine r_callV1 (c := 5) (mc := 0) (ms := 0) dX5_count_162 ck_X5_countFindings iv_X5_countFindings sl_X5_countFindings lk_RX5_95 rfl rfl (c2) (by decide) (by decide) (As := [.int l1]) rfl rfl (Nat.le_of_ble_eq_true rfl) (Or.inl rfl) (Or.inl rfl) (e1) ?_
  exact r_ireturn dX5_count_165 rfl (k3)

set_option maxRecDepth 20000 in
set_option maxHeartbeats 2000000 in
theorem s_X5_countFindings_0 {G : GG} {nc ns : Nat} {h : PH} {Z : Option Value → PH → Prop} {l0 : Nat} {l1 : Int32} {x1 : Int32} {x2 : Int32} {x3 : Int32} {x4 : Int32} {x5 : Int32} {x6 : Int32} {x7 : Int32}
    (k1 : (l1 < 3 ∨ 8 < l1) → Z (some (.int (-1))) h)
    (c2 : hK h l0 = 15)
    (c3 : (hR h l0 1) ≠ 0)
    (e4 : (l1 = 3) → Ev G m_X3_pairs [.ref (hR h l0 1)] h 0 0 (Ret (some (.int x1)) h))
    (c5 : hK h (hR h l0 1) = 13)
    (k6 : (l1 = 3) → Z (some (.int x1)) h)
    (c7 : (hR h l0 0) ≠ 0)
    (e8 : (l1 = 4) → Ev G m_X1_sizeOf [.ref (hR h l0 0), .int 0] h 0 0 (Ret (some (.int x2)) h))
    (c9 : hK h (hR h l0 0) = 11)
    (e10 : (l1 = 4) → Ev G m_X3_pairs [.ref (hR h l0 1)] h 0 0 (Ret (some (.int x3)) h))
    (k11 : (l1 = 4) → Z (some (.int (x2 - x3))) h)
    (e12 : (l1 = 5) → Ev G m_X3_nodesInPart [.ref (hR h l0 1), .int (l1 - 5)] h 0 0 (Ret (some (.int x4)) h))
    (k13 : (l1 = 5) → Z (some (.int x4)) h)
    (e14 : (l1 = 6) → Ev G m_X3_nodesInPart [.ref (hR h l0 1), .int (l1 - 5)] h 0 0 (Ret (some (.int x5)) h))
    (k15 : (l1 = 6) → Z (some (.int x5)) h)
    (e16 : (l1 = 7) → Ev G m_X3_nodesInPart [.ref (hR h l0 1), .int (l1 - 5)] h 0 0 (Ret (some (.int x6)) h))
    (k17 : (l1 = 7) → Z (some (.int x6)) h)
    (c18 : (hR h l0 2) ≠ 0)
    (e19 : (l1 = 8) → Ev G m_X0_howMany [.ref (hR h l0 2)] h 0 0 (Ret (some (.int x7)) h))
    (c20 : hK h (hR h l0 2) = 10)
    (k21 : (l1 = 8) → Z (some (.int x7)) h) :
    RR G nc ns m_X5_countFindings 0 [some (.ref l0), some (.int l1)] [] h Z := by
  refine r_iload_n dX5_countFindings_0 rfl ?_
  by_cases q1 : l1 < 3 ∨ 8 < l1
  · refine r_tableOut (tgt := 84) dX5_countFindings_1 (sw_out (by decide) (by decide) q1) (by decide) ?_
    refine r_iconst (v := (-1)) dX5_countFindings_84 (by decide) ?_
    exact r_ireturn dX5_countFindings_85 rfl (k1 q1)
  · rcases sw_in_3_8 q1 with q9 | q9 | q9 | q9 | q9 | q9
    · have q2 : l1 = 3 := q9
      refine r_tableIn (off := 39) (tgt := 40) dX5_countFindings_1 (by rw [q2]; decide) (by rw [q2]; decide) (by rw [q2]; rfl) (by decide) ?_
      refine r_aload_n dX5_countFindings_40 rfl ?_
      refine r_getR (c := 5) (k := 1) dX5_countFindings_41 rfl rfl (by decide) fl_RX5_23 (c2) rfl (c3) ?_
      refine r_callV1 (c := 3) (mc := 0) (ms := 0) dX5_countFindings_44 ck_X3_pairs iv_X3_pairs sl_X3_pairs lk_RX5_88 rfl rfl (c5) (by decide) (by decide) (As := []) rfl rfl (Nat.le_of_ble_eq_true rfl) (Or.inl rfl) (Or.inl rfl) (e4 q2) ?_
      exact r_ireturn dX5_countFindings_47 rfl (k6 q2)
    · have q3 : l1 = 4 := q9
      refine r_tableIn (off := 47) (tgt := 48) dX5_countFindings_1 (by rw [q3]; decide) (by rw [q3]; decide) (by rw [q3]; rfl) (by decide) ?_
      refine r_aload_n dX5_countFindings_48 rfl ?_
      refine r_getR (c := 5) (k := 0) dX5_countFindings_49 rfl rfl (by decide) fl_RX5_14 (c2) rfl (c7) ?_
      refine r_iconst (v := 0) dX5_countFindings_52 (by decide) ?_
      refine r_callV1 (c := 1) (mc := 0) (ms := 0) dX5_countFindings_53 ck_X1_sizeOf iv_X1_sizeOf sl_X1_sizeOf lk_RX5_77 rfl rfl (c9) (by decide) (by decide) (As := [.int 0]) rfl rfl (Nat.le_of_ble_eq_true rfl) (Or.inl rfl) (Or.inl rfl) (e8 q3) ?_
      refine r_aload_n dX5_countFindings_56 rfl ?_
      refine r_getR (c := 5) (k := 1) dX5_countFindings_57 rfl rfl (by decide) fl_RX5_23 (c2) rfl (c3) ?_
      refine r_callV1 (c := 3) (mc := 0) (ms := 0) dX5_countFindings_60 ck_X3_pairs iv_X3_pairs sl_X3_pairs lk_RX5_88 rfl rfl (c5) (by decide) (by decide) (As := []) rfl rfl (Nat.le_of_ble_eq_true rfl) (Or.inl rfl) (Or.inl rfl) (e10 q3) ?_
      refine r_isub dX5_countFindings_63 ?_
      exact r_ireturn dX5_countFindings_64 rfl (k11 q3)
    · have q4 : l1 = 5 := q9
      refine r_tableIn (off := 64) (tgt := 65) dX5_countFindings_1 (by rw [q4]; decide) (by rw [q4]; decide) (by rw [q4]; rfl) (by decide) ?_
      refine r_aload_n dX5_countFindings_65 rfl ?_
      refine r_getR (c := 5) (k := 1) dX5_countFindings_66 rfl rfl (by decide) fl_RX5_23 (c2) rfl (c3) ?_
      refine r_iload_n dX5_countFindings_69 rfl ?_
      refine r_iconst (v := 5) dX5_countFindings_70 (by decide) ?_
      refine r_isub dX5_countFindings_71 ?_
      refine r_callV1 (c := 3) (mc := 0) (ms := 0) dX5_countFindings_72 ck_X3_nodesInPart iv_X3_nodesInPart sl_X3_nodesInPart lk_RX5_98 rfl rfl (c5) (by decide) (by decide) (As := [.int (l1 - 5)]) rfl rfl (Nat.le_of_ble_eq_true rfl) (Or.inl rfl) (Or.inl rfl) (e12 q4) ?_
      exact r_ireturn dX5_countFindings_75 rfl (k13 q4)
    · have q5 : l1 = 6 := q9
      refine r_tableIn (off := 64) (tgt := 65) dX5_countFindings_1 (by rw [q5]; decide) (by rw [q5]; decide) (by rw [q5]; rfl) (by decide) ?_
      refine r_aload_n dX5_countFindings_65 rfl ?_
      refine r_getR (c := 5) (k := 1) dX5_countFindings_66 rfl rfl (by decide) fl_RX5_23 (c2) rfl (c3) ?_
      refine r_iload_n dX5_countFindings_69 rfl ?_
      refine r_iconst (v := 5) dX5_countFindings_70 (by decide) ?_
      refine r_isub dX5_countFindings_71 ?_
      refine r_callV1 (c := 3) (mc := 0) (ms := 0) dX5_countFindings_72 ck_X3_nodesInPart iv_X3_nodesInPart sl_X3_nodesInPart lk_RX5_98 rfl rfl (c5) (by decide) (by decide) (As := [.int (l1 - 5)]) rfl rfl (Nat.le_of_ble_eq_true rfl) (Or.inl rfl) (Or.inl rfl) (e14 q5) ?_
      exact r_ireturn dX5_countFindings_75 rfl (k15 q5)
    · have q6 : l1 = 7 := q9
      refine r_tableIn (off := 64) (tgt := 65) dX5_countFindings_1 (by rw [q6]; decide) (by rw [q6]; decide) (by rw [q6]; rfl) (by decide) ?_
      refine r_aload_n dX5_countFindings_65 rfl ?_
      refine r_getR (c := 5) (k := 1) dX5_countFindings_66 rfl rfl (by decide) fl_RX5_23 (c2) rfl (c3) ?_
      refine r_iload_n dX5_countFindings_69 rfl ?_
      refine r_iconst (v := 5) dX5_countFindings_70 (by decide) ?_
      refine r_isub dX5_countFindings_71 ?_
      refine r_callV1 (c := 3) (mc := 0) (ms := 0) dX5_countFindings_72 ck_X3_nodesInPart iv_X3_nodesInPart sl_X3_nodesInPart lk_RX5_98 rfl rfl (c5) (by decide) (by decide) (As := [.int (l1 - 5)]) rfl rfl (Nat.le_of_ble_eq_true rfl) (Or.inl rfl) (Or.inl rfl) (e16 q6) ?_
      exact r_ireturn dX5_countFindings_75 rfl (k17 q6)
    · have q7 : l1 = 8 := q9
      refine r_tableIn (off := 75) (tgt := 76) dX5_countFindings_1 (by rw [q7]; decide) (by rw [q7]; decide) (by rw [q7]; rfl) (by decide) ?_
      refine r_aload_n dX5_countFindings_76 rfl ?_
      refine r_getR (c := 5) (k := 2) dX5_countFindings_77 rfl rfl (by decide) fl_RX5_32 (c2) rfl (c18) ?_
      refine r_callV1 (c := 0) (mc := 0) (ms := 0) dX5_countFindings_80 ck_X0_howMany iv_X0_howMany sl_X0_howMany lk_RX5_101 rfl rfl (c20) (by decide) (by decide) (As := []) rfl rfl (Nat.le_of_ble_eq_true rfl) (Or.inl rfl) (Or.inl rfl) (e19 q7) ?_
      exact r_ireturn dX5_countFindings_83 rfl (k21 q7)

set_option maxRecDepth 20000 in
set_option maxHeartbeats 2000000 in
theorem s_X5_has_0 {G : GG} {nc ns : Nat} {h : PH} {Z : Option Value → PH → Prop} {l0 : Nat} {l1 : Int32} {l2 : Int32} {x1 : Int32}
    (c1 : hK h l0 = 15)
    (c2 : (hR h l0 0) ≠ 0)
    (e3 : Ev G m_X1_joins [.ref (hR h l0 0), .int l1, .int l2] h 0 0 (Ret (some (.int x1)) h))
    (c4 : hK h (hR h l0 0) = 11)
    (k5 : Z (some (.int x1)) h)
    (c6 : (x1 = 0 ∨ x1 = 1)) :
    RR G nc ns m_X5_has 0 [some (.ref l0), some (.int l1), some (.int l2)] [] h Z := by
  refine r_aload_n dX5_has_0 rfl ?_
  refine r_getR (c := 5) (k := 0) dX5_has_1 rfl rfl (by decide) fl_RX5_14 (c1) rfl (c2) ?_
  refine r_iload_n dX5_has_4 rfl ?_
  refine r_iload_n dX5_has_5 rfl ?_
  refine r_callV1 (c := 1) (mc := 0) (ms := 0) dX5_has_6 ck_X1_joins iv_X1_joins sl_X1_joins lk_RX5_66 rfl rfl (c4) (by decide) (by decide) (As := [.int l1, .int l2]) rfl rfl (Nat.le_of_ble_eq_true rfl) (Or.inl rfl) (Or.inl rfl) (e3) ?_
  exact r_zreturn dX5_has_9 rfl (c6) (k5)

set_option maxRecDepth 20000 in
set_option maxHeartbeats 2000000 in
theorem s_X5_partner_0 {G : GG} {nc ns : Nat} {h : PH} {Z : Option Value → PH → Prop} {l0 : Nat} {l1 : Int32} {l2 : Int32} {x1 : Int32} {P2 : PH → Prop}
    (c1 : hK h l0 = 15)
    (c2 : (hR h l0 0) ≠ 0)
    (e3 : Ev G m_X1_holds [.ref (hR h l0 0), .int l1, .int l2] h 0 0 (Ret (some (.int x1)) h))
    (c4 : hK h (hR h l0 0) = 11)
    (c5 : (hR h l0 1) ≠ 0)
    (e6 : (¬ x1 = 0) → Ev G m_X3_refresh [.ref (hR h l0 1)] h 0 0 (RV P2))
    (c7 : hK h (hR h l0 1) = 13)
    (k8 : (¬ x1 = 0) → ∀ (h2 : PH), P2 h2 → hN h2 = (hN h) → hS h2 = (hS h) → RR G nc ns m_X5_partner 21 [some (.ref l0), some (.int l1), some (.int l2)] [] h2 Z)
    (k9 : (x1 = 0) → Z (some (.int (-1))) h) :
    RR G nc ns m_X5_partner 0 [some (.ref l0), some (.int l1), some (.int l2)] [] h Z := by
  refine r_aload_n dX5_partner_0 rfl ?_
  refine r_getR (c := 5) (k := 0) dX5_partner_1 rfl rfl (by decide) fl_RX5_14 (c1) rfl (c2) ?_
  refine r_iload_n dX5_partner_4 rfl ?_
  refine r_iload_n dX5_partner_5 rfl ?_
  refine r_callV1 (c := 1) (mc := 0) (ms := 0) dX5_partner_6 ck_X1_holds iv_X1_holds sl_X1_holds lk_RX5_62 rfl rfl (c4) (by decide) (by decide) (As := [.int l1, .int l2]) rfl rfl (Nat.le_of_ble_eq_true rfl) (Or.inl rfl) (Or.inl rfl) (e3) ?_
  refine r_if_ne 14 dX5_partner_9 (by decide) (fun q1 => ?_) (fun q1 => ?_)
  · refine r_aload_n dX5_partner_14 rfl ?_
    refine r_getR (c := 5) (k := 1) dX5_partner_15 rfl rfl (by decide) fl_RX5_23 (c1) rfl (c5) ?_
    refine r_callV (c := 3) (mc := 0) (ms := 0) dX5_partner_18 ck_X3_refresh iv_X3_refresh sl_X3_refresh lk_RX5_84 rfl rfl (c7) (by decide) (by decide) (As := []) rfl rfl (Nat.le_of_ble_eq_true rfl) (Or.inl rfl) (Or.inl rfl) (e6 q1) ?_
    rintro v2 h2 ⟨rfl, z2⟩ n2 t2
    exact k8 q1 h2 z2 n2 t2
  · refine r_iconst (v := (-1)) dX5_partner_12 (by decide) ?_
    exact r_ireturn dX5_partner_13 rfl (k9 q1)

set_option maxRecDepth 20000 in
set_option maxHeartbeats 2000000 in
theorem s_X5_partner_21 {G : GG} {nc ns : Nat} {h : PH} {Z : Option Value → PH → Prop} {l0 : Nat} {l1 : Int32} {l2 : Int32} {x1 : Int32}
    (c1 : hK h l0 = 15)
    (c2 : (hR h l0 1) ≠ 0)
    (e3 : Ev G m_X3_mateOf [.ref (hR h l0 1), .int l1, .int l2] h 0 0 (Ret (some (.int x1)) h))
    (c4 : hK h (hR h l0 1) = 13)
    (k5 : Z (some (.int x1)) h) :
    RR G nc ns m_X5_partner 21 [some (.ref l0), some (.int l1), some (.int l2)] [] h Z := by
  refine r_aload_n dX5_partner_21 rfl ?_
  refine r_getR (c := 5) (k := 1) dX5_partner_22 rfl rfl (by decide) fl_RX5_23 (c1) rfl (c2) ?_
  refine r_iload_n dX5_partner_25 rfl ?_
  refine r_iload_n dX5_partner_26 rfl ?_
  refine r_callV1 (c := 3) (mc := 0) (ms := 0) dX5_partner_27 ck_X3_mateOf iv_X3_mateOf sl_X3_mateOf lk_RX5_104 rfl rfl (c4) (by decide) (by decide) (As := [.int l1, .int l2]) rfl rfl (Nat.le_of_ble_eq_true rfl) (Or.inl rfl) (Or.inl rfl) (e3) ?_
  exact r_ireturn dX5_partner_30 rfl (k5)

set_option maxRecDepth 20000 in
set_option maxHeartbeats 2000000 in
theorem s_X5_edgeIs_0 {G : GG} {nc ns : Nat} {h : PH} {Z : Option Value → PH → Prop} {l0 : Nat} {l1 : Int32} {l2 : Int32} {x1 : Int32} {P2 : PH → Prop}
    (c1 : hK h l0 = 15)
    (c2 : (hR h l0 0) ≠ 0)
    (e3 : Ev G m_X1_joins [.ref (hR h l0 0), .int l1, .int l2] h 0 0 (Ret (some (.int x1)) h))
    (c4 : hK h (hR h l0 0) = 11)
    (c5 : (hR h l0 1) ≠ 0)
    (e6 : (¬ x1 = 0) → Ev G m_X3_refresh [.ref (hR h l0 1)] h 0 0 (RV P2))
    (c7 : hK h (hR h l0 1) = 13)
    (k8 : (¬ x1 = 0) → ∀ (h2 : PH), P2 h2 → hN h2 = (hN h) → hS h2 = (hS h) → RR G nc ns m_X5_edgeIs 21 [some (.ref l0), some (.int l1), some (.int l2)] [] h2 Z)
    (k9 : (x1 = 0) → Z (some (.int (-1))) h) :
    RR G nc ns m_X5_edgeIs 0 [some (.ref l0), some (.int l1), some (.int l2)] [] h Z := by
  refine r_aload_n dX5_edgeIs_0 rfl ?_
  refine r_getR (c := 5) (k := 0) dX5_edgeIs_1 rfl rfl (by decide) fl_RX5_14 (c1) rfl (c2) ?_
  refine r_iload_n dX5_edgeIs_4 rfl ?_
  refine r_iload_n dX5_edgeIs_5 rfl ?_
  refine r_callV1 (c := 1) (mc := 0) (ms := 0) dX5_edgeIs_6 ck_X1_joins iv_X1_joins sl_X1_joins lk_RX5_66 rfl rfl (c4) (by decide) (by decide) (As := [.int l1, .int l2]) rfl rfl (Nat.le_of_ble_eq_true rfl) (Or.inl rfl) (Or.inl rfl) (e3) ?_
  refine r_if_ne 14 dX5_edgeIs_9 (by decide) (fun q1 => ?_) (fun q1 => ?_)
  · refine r_aload_n dX5_edgeIs_14 rfl ?_
    refine r_getR (c := 5) (k := 1) dX5_edgeIs_15 rfl rfl (by decide) fl_RX5_23 (c1) rfl (c5) ?_
    refine r_callV (c := 3) (mc := 0) (ms := 0) dX5_edgeIs_18 ck_X3_refresh iv_X3_refresh sl_X3_refresh lk_RX5_84 rfl rfl (c7) (by decide) (by decide) (As := []) rfl rfl (Nat.le_of_ble_eq_true rfl) (Or.inl rfl) (Or.inl rfl) (e6 q1) ?_
    rintro v2 h2 ⟨rfl, z2⟩ n2 t2
    exact k8 q1 h2 z2 n2 t2
  · refine r_iconst (v := (-1)) dX5_edgeIs_12 (by decide) ?_
    exact r_ireturn dX5_edgeIs_13 rfl (k9 q1)

set_option maxRecDepth 20000 in
set_option maxHeartbeats 2000000 in
theorem s_X5_edgeIs_21 {G : GG} {nc ns : Nat} {h : PH} {Z : Option Value → PH → Prop} {l0 : Nat} {l1 : Int32} {l2 : Int32} {P1 : PH → Prop}
    (c1 : hK h l0 = 15)
    (c2 : (hR h l0 2) ≠ 0)
    (e3 : Ev G m_X0_refresh [.ref (hR h l0 2)] h 0 0 (RV P1))
    (c4 : hK h (hR h l0 2) = 10)
    (k5 : ∀ (h1 : PH), P1 h1 → hN h1 = (hN h) → hS h1 = (hS h) → RR G nc ns m_X5_edgeIs 28 [some (.ref l0), some (.int l1), some (.int l2)] [] h1 Z) :
    RR G nc ns m_X5_edgeIs 21 [some (.ref l0), some (.int l1), some (.int l2)] [] h Z := by
  refine r_aload_n dX5_edgeIs_21 rfl ?_
  refine r_getR (c := 5) (k := 2) dX5_edgeIs_22 rfl rfl (by decide) fl_RX5_32 (c1) rfl (c2) ?_
  refine r_callV (c := 0) (mc := 0) (ms := 0) dX5_edgeIs_25 ck_X0_refresh iv_X0_refresh sl_X0_refresh lk_RX5_94 rfl rfl (c4) (by decide) (by decide) (As := []) rfl rfl (Nat.le_of_ble_eq_true rfl) (Or.inl rfl) (Or.inl rfl) (e3) ?_
  rintro v1 h1 ⟨rfl, z1⟩ n1 t1
  exact k5 h1 z1 n1 t1

set_option maxRecDepth 20000 in
set_option maxHeartbeats 2000000 in
theorem s_X5_edgeIs_28 {G : GG} {nc ns : Nat} {h : PH} {Z : Option Value → PH → Prop} {l0 : Nat} {l1 : Int32} {l2 : Int32} {x1 : Int64} {x2 : Int32} {x3 : Int32}
    (c1 : hK h l0 = 15)
    (c2 : (hR h l0 2) ≠ 0)
    (e3 : Ev G m_X0_usefulRights [.ref (hR h l0 2), .int l1] h 0 0 (Ret (some (.long x1)) h))
    (c4 : hK h (hR h l0 2) = 10)
    (e5 : Ev G m_X5_contains [.long x1, .int l2] h 0 0 (Ret (some (.int x2)) h))
    (e6 : (¬ x2 = 0) → Ev G m_X0_isLonePair [.ref (hR h l0 2), .int l1] h 0 0 (Ret (some (.int x3)) h))
    (k7 : (¬ x2 = 0) → (x3 = 0) → Z (some (.int 1)) h)
    (k8 : (¬ x2 = 0) → (¬ x3 = 0) → Z (some (.int 2)) h)
    (k9 : (x2 = 0) → Z (some (.int 0)) h) :
    RR G nc ns m_X5_edgeIs 28 [some (.ref l0), some (.int l1), some (.int l2)] [] h Z := by
  refine r_aload_n dX5_edgeIs_28 rfl ?_
  refine r_getR (c := 5) (k := 2) dX5_edgeIs_29 rfl rfl (by decide) fl_RX5_32 (c1) rfl (c2) ?_
  refine r_iload_n dX5_edgeIs_32 rfl ?_
  refine r_callV1 (c := 0) (mc := 0) (ms := 0) dX5_edgeIs_33 ck_X0_usefulRights iv_X0_usefulRights sl_X0_usefulRights lk_RX5_108 rfl rfl (c4) (by decide) (by decide) (As := [.int l1]) rfl rfl (Nat.le_of_ble_eq_true rfl) (Or.inl rfl) (Or.inl rfl) (e3) ?_
  refine r_iload_n dX5_edgeIs_36 rfl ?_
  refine r_callS1 (mc := 0) (ms := 0) dX5_edgeIs_37 ck_X5_contains sv_X5_contains lk_RX5_112 (by decide) (by decide) (As := [.long x1, .int l2]) rfl rfl (Nat.le_of_ble_eq_true rfl) (Or.inl rfl) (Or.inl rfl) (e5) ?_
  refine r_if_ne 45 dX5_edgeIs_40 (by decide) (fun q1 => ?_) (fun q1 => ?_)
  · refine r_aload_n dX5_edgeIs_45 rfl ?_
    refine r_getR (c := 5) (k := 2) dX5_edgeIs_46 rfl rfl (by decide) fl_RX5_32 (c1) rfl (c2) ?_
    refine r_iload_n dX5_edgeIs_49 rfl ?_
    refine r_callV1 (c := 0) (mc := 0) (ms := 0) dX5_edgeIs_50 ck_X0_isLonePair iv_X0_isLonePair sl_X0_isLonePair lk_RX5_116 rfl rfl (c4) (by decide) (by decide) (As := [.int l1]) rfl rfl (Nat.le_of_ble_eq_true rfl) (Or.inl rfl) (Or.inl rfl) (e6 q1) ?_
    refine r_if_eq 60 dX5_edgeIs_53 (by decide) (fun q2 => ?_) (fun q2 => ?_)
    · refine r_iconst (v := 1) dX5_edgeIs_60 (by decide) ?_
      exact r_ireturn dX5_edgeIs_61 rfl (k7 q1 q2)
    · refine r_iconst (v := 2) dX5_edgeIs_56 (by decide) ?_
      refine r_goto (tgt := 61) dX5_edgeIs_57 (by decide) ?_
      exact r_ireturn dX5_edgeIs_61 rfl (k8 q1 q2)
  · refine r_iconst (v := 0) dX5_edgeIs_43 (by decide) ?_
    exact r_ireturn dX5_edgeIs_44 rfl (k9 q1)

set_option maxRecDepth 20000 in
set_option maxHeartbeats 2000000 in
theorem s_X5_nodeIs_0 {G : GG} {nc ns : Nat} {h : PH} {Z : Option Value → PH → Prop} {l0 : Nat} {l1 : Int32} {l2 : Int32} {x1 : Int32} {P2 : PH → Prop}
    (c1 : hK h l0 = 15)
    (c2 : (hR h l0 0) ≠ 0)
    (e3 : Ev G m_X1_holds [.ref (hR h l0 0), .int l1, .int l2] h 0 0 (Ret (some (.int x1)) h))
    (c4 : hK h (hR h l0 0) = 11)
    (c5 : (hR h l0 1) ≠ 0)
    (e6 : (¬ x1 = 0) → Ev G m_X3_refresh [.ref (hR h l0 1)] h 0 0 (RV P2))
    (c7 : hK h (hR h l0 1) = 13)
    (k8 : (¬ x1 = 0) → ∀ (h2 : PH), P2 h2 → hN h2 = (hN h) → hS h2 = (hS h) → RR G nc ns m_X5_nodeIs 21 [some (.ref l0), some (.int l1), some (.int l2), none] [] h2 Z)
    (k9 : (x1 = 0) → Z (some (.int (-1))) h) :
    RR G nc ns m_X5_nodeIs 0 [some (.ref l0), some (.int l1), some (.int l2), none] [] h Z := by
  refine r_aload_n dX5_nodeIs_0 rfl ?_
  refine r_getR (c := 5) (k := 0) dX5_nodeIs_1 rfl rfl (by decide) fl_RX5_14 (c1) rfl (c2) ?_
  refine r_iload_n dX5_nodeIs_4 rfl ?_
  refine r_iload_n dX5_nodeIs_5 rfl ?_
  refine r_callV1 (c := 1) (mc := 0) (ms := 0) dX5_nodeIs_6 ck_X1_holds iv_X1_holds sl_X1_holds lk_RX5_62 rfl rfl (c4) (by decide) (by decide) (As := [.int l1, .int l2]) rfl rfl (Nat.le_of_ble_eq_true rfl) (Or.inl rfl) (Or.inl rfl) (e3) ?_
  refine r_if_ne 14 dX5_nodeIs_9 (by decide) (fun q1 => ?_) (fun q1 => ?_)
  · refine r_aload_n dX5_nodeIs_14 rfl ?_
    refine r_getR (c := 5) (k := 1) dX5_nodeIs_15 rfl rfl (by decide) fl_RX5_23 (c1) rfl (c5) ?_
    refine r_callV (c := 3) (mc := 0) (ms := 0) dX5_nodeIs_18 ck_X3_refresh iv_X3_refresh sl_X3_refresh lk_RX5_84 rfl rfl (c7) (by decide) (by decide) (As := []) rfl rfl (Nat.le_of_ble_eq_true rfl) (Or.inl rfl) (Or.inl rfl) (e6 q1) ?_
    rintro v2 h2 ⟨rfl, z2⟩ n2 t2
    exact k8 q1 h2 z2 n2 t2
  · refine r_iconst (v := (-1)) dX5_nodeIs_12 (by decide) ?_
    exact r_ireturn dX5_nodeIs_13 rfl (k9 q1)

set_option maxRecDepth 20000 in
set_option maxHeartbeats 2000000 in
theorem s_X5_nodeIs_21 {G : GG} {nc ns : Nat} {h : PH} {Z : Option Value → PH → Prop} {l0 : Nat} {l1 : Int32} {l2 : Int32} {x1 : Int32} {x2 : Int32}
    (c1 : hK h l0 = 15)
    (c2 : (hR h l0 1) ≠ 0)
    (e3 : (¬ l1 = 0) → Ev G m_X3_partOf [.ref (hR h l0 1), .int l1, .int l2] h 0 0 (Ret (some (.int x1)) h))
    (c4 : hK h (hR h l0 1) = 13)
    (k5 : (¬ l1 = 0) → (¬ x1 = 2) → Z (some (.int 1)) h)
    (k6 : (¬ l1 = 0) → (x1 = 2) → Z (some (.int 0)) h)
    (e7 : (l1 = 0) → Ev G m_X3_partOf [.ref (hR h l0 1), .int l1, .int l2] h 0 0 (Ret (some (.int x2)) h))
    (k8 : (l1 = 0) → (¬ x2 = 0) → Z (some (.int 1)) h)
    (k9 : (l1 = 0) → (x2 = 0) → Z (some (.int 0)) h) :
    RR G nc ns m_X5_nodeIs 21 [some (.ref l0), some (.int l1), some (.int l2), none] [] h Z := by
  refine r_iload_n dX5_nodeIs_21 rfl ?_
  refine r_if_ne 29 dX5_nodeIs_22 (by decide) (fun q1 => ?_) (fun q1 => ?_)
  · refine r_iconst (v := 2) dX5_nodeIs_29 (by decide) ?_
    refine r_istore_nL [some (.ref l0), some (.int l1), some (.int l2), some (.int 2)] dX5_nodeIs_30 (by decide) rfl ?_
    refine r_aload_n dX5_nodeIs_31 rfl ?_
    refine r_getR (c := 5) (k := 1) dX5_nodeIs_32 rfl rfl (by decide) fl_RX5_23 (c1) rfl (c2) ?_
    refine r_iload_n dX5_nodeIs_35 rfl ?_
    refine r_iload_n dX5_nodeIs_36 rfl ?_
    refine r_callV1 (c := 3) (mc := 0) (ms := 0) dX5_nodeIs_37 ck_X3_partOf iv_X3_partOf sl_X3_partOf lk_RX5_120 rfl rfl (c4) (by decide) (by decide) (As := [.int l1, .int l2]) rfl rfl (Nat.le_of_ble_eq_true rfl) (Or.inl rfl) (Or.inl rfl) (e3 q1) ?_
    refine r_iload_n dX5_nodeIs_40 rfl ?_
    refine r_icmp_ne 48 dX5_nodeIs_41 (by decide) (fun q2 => ?_) (fun q2 => ?_)
    · refine r_iconst (v := 1) dX5_nodeIs_48 (by decide) ?_
      exact r_ireturn dX5_nodeIs_49 rfl (k5 q1 q2)
    · refine r_iconst (v := 0) dX5_nodeIs_44 (by decide) ?_
      refine r_goto (tgt := 49) dX5_nodeIs_45 (by decide) ?_
      exact r_ireturn dX5_nodeIs_49 rfl (k6 q1 q2)
  · refine r_iconst (v := 0) dX5_nodeIs_25 (by decide) ?_
    refine r_goto (tgt := 30) dX5_nodeIs_26 (by decide) ?_
    refine r_istore_nL [some (.ref l0), some (.int l1), some (.int l2), some (.int 0)] dX5_nodeIs_30 (by decide) rfl ?_
    refine r_aload_n dX5_nodeIs_31 rfl ?_
    refine r_getR (c := 5) (k := 1) dX5_nodeIs_32 rfl rfl (by decide) fl_RX5_23 (c1) rfl (c2) ?_
    refine r_iload_n dX5_nodeIs_35 rfl ?_
    refine r_iload_n dX5_nodeIs_36 rfl ?_
    refine r_callV1 (c := 3) (mc := 0) (ms := 0) dX5_nodeIs_37 ck_X3_partOf iv_X3_partOf sl_X3_partOf lk_RX5_120 rfl rfl (c4) (by decide) (by decide) (As := [.int l1, .int l2]) rfl rfl (Nat.le_of_ble_eq_true rfl) (Or.inl rfl) (Or.inl rfl) (e7 q1) ?_
    refine r_iload_n dX5_nodeIs_40 rfl ?_
    refine r_icmp_ne 48 dX5_nodeIs_41 (by decide) (fun q3 => ?_) (fun q3 => ?_)
    · refine r_iconst (v := 1) dX5_nodeIs_48 (by decide) ?_
      exact r_ireturn dX5_nodeIs_49 rfl (k8 q1 q3)
    · refine r_iconst (v := 0) dX5_nodeIs_44 (by decide) ?_
      refine r_goto (tgt := 49) dX5_nodeIs_45 (by decide) ?_
      exact r_ireturn dX5_nodeIs_49 rfl (k9 q1 q3)

set_option maxRecDepth 20000 in
set_option maxHeartbeats 2000000 in
theorem s_X5_cover_0 {G : GG} {nc ns : Nat} {h : PH} {Z : Option Value → PH → Prop} {l0 : Nat} {l1 : Int32} {l2 : Int32} {l3 : Int32} {x1 : Int32} {x2 : Int32} {P3 : PH → Prop}
    (e1 : Ev G m_X5_isOneOfTwo [.int l1] h 0 0 (Ret (some (.int x1)) h))
    (k2 : (x1 = 0) → Z (some (.int (-1))) h)
    (c3 : hK h l0 = 15)
    (c4 : (hR h l0 0) ≠ 0)
    (e5 : (¬ x1 = 0) → Ev G m_X1_holds [.ref (hR h l0 0), .int l2, .int l3] h 0 0 (Ret (some (.int x2)) h))
    (c6 : hK h (hR h l0 0) = 11)
    (c7 : (hR h l0 1) ≠ 0)
    (e8 : (¬ x1 = 0) → (¬ x2 = 0) → Ev G m_X3_refresh [.ref (hR h l0 1)] h 0 0 (RV P3))
    (c9 : hK h (hR h l0 1) = 13)
    (k10 : (¬ x1 = 0) → (¬ x2 = 0) → ∀ (h3 : PH), P3 h3 → hN h3 = (hN h) → hS h3 = (hS h) → RR G nc ns m_X5_cover 28 [some (.ref l0), some (.int l1), some (.int l2), some (.int l3)] [] h3 Z)
    (k11 : (¬ x1 = 0) → (x2 = 0) → Z (some (.int (-1))) h) :
    RR G nc ns m_X5_cover 0 [some (.ref l0), some (.int l1), some (.int l2), some (.int l3)] [] h Z := by
  refine r_iload_n dX5_cover_0 rfl ?_
  refine r_callS1 (mc := 0) (ms := 0) dX5_cover_1 ck_X5_isOneOfTwo sv_X5_isOneOfTwo lk_RX5_123 (by decide) (by decide) (As := [.int l1]) rfl rfl (Nat.le_of_ble_eq_true rfl) (Or.inl rfl) (Or.inl rfl) (e1) ?_
  refine r_if_eq 19 dX5_cover_4 (by decide) (fun q1 => ?_) (fun q1 => ?_)
  · refine r_iconst (v := (-1)) dX5_cover_19 (by decide) ?_
    exact r_ireturn dX5_cover_20 rfl (k2 q1)
  · refine r_aload_n dX5_cover_7 rfl ?_
    refine r_getR (c := 5) (k := 0) dX5_cover_8 rfl rfl (by decide) fl_RX5_14 (c3) rfl (c4) ?_
    refine r_iload_n dX5_cover_11 rfl ?_
    refine r_iload_n dX5_cover_12 rfl ?_
    refine r_callV1 (c := 1) (mc := 0) (ms := 0) dX5_cover_13 ck_X1_holds iv_X1_holds sl_X1_holds lk_RX5_62 rfl rfl (c6) (by decide) (by decide) (As := [.int l2, .int l3]) rfl rfl (Nat.le_of_ble_eq_true rfl) (Or.inl rfl) (Or.inl rfl) (e5 q1) ?_
    refine r_if_ne 21 dX5_cover_16 (by decide) (fun q2 => ?_) (fun q2 => ?_)
    · refine r_aload_n dX5_cover_21 rfl ?_
      refine r_getR (c := 5) (k := 1) dX5_cover_22 rfl rfl (by decide) fl_RX5_23 (c3) rfl (c7) ?_
      refine r_callV (c := 3) (mc := 0) (ms := 0) dX5_cover_25 ck_X3_refresh iv_X3_refresh sl_X3_refresh lk_RX5_84 rfl rfl (c9) (by decide) (by decide) (As := []) rfl rfl (Nat.le_of_ble_eq_true rfl) (Or.inl rfl) (Or.inl rfl) (e8 q1 q2) ?_
      rintro v3 h3 ⟨rfl, z3⟩ n3 t3
      exact k10 q1 q2 h3 z3 n3 t3
    · refine r_iconst (v := (-1)) dX5_cover_19 (by decide) ?_
      exact r_ireturn dX5_cover_20 rfl (k11 q1 q2)

set_option maxRecDepth 20000 in
set_option maxHeartbeats 2000000 in
theorem s_X5_cover_28 {G : GG} {nc ns : Nat} {h : PH} {Z : Option Value → PH → Prop} {l0 : Nat} {l1 : Int32} {l2 : Int32} {l3 : Int32} {x1 : Int32}
    (c1 : hK h l0 = 15)
    (c2 : (hR h l0 1) ≠ 0)
    (e3 : Ev G m_X3_isInCover [.ref (hR h l0 1), .int l1, .int l2, .int l3] h 0 0 (Ret (some (.int x1)) h))
    (c4 : hK h (hR h l0 1) = 13)
    (k5 : (x1 = 0) → Z (some (.int 0)) h)
    (k6 : (¬ x1 = 0) → Z (some (.int 1)) h) :
    RR G nc ns m_X5_cover 28 [some (.ref l0), some (.int l1), some (.int l2), some (.int l3)] [] h Z := by
  refine r_aload_n dX5_cover_28 rfl ?_
  refine r_getR (c := 5) (k := 1) dX5_cover_29 rfl rfl (by decide) fl_RX5_23 (c1) rfl (c2) ?_
  refine r_iload_n dX5_cover_32 rfl ?_
  refine r_iload_n dX5_cover_33 rfl ?_
  refine r_iload_n dX5_cover_34 rfl ?_
  refine r_callV1 (c := 3) (mc := 0) (ms := 0) dX5_cover_35 ck_X3_isInCover iv_X3_isInCover sl_X3_isInCover lk_RX5_126 rfl rfl (c4) (by decide) (by decide) (As := [.int l1, .int l2, .int l3]) rfl rfl (Nat.le_of_ble_eq_true rfl) (Or.inl rfl) (Or.inl rfl) (e3) ?_
  refine r_if_eq 45 dX5_cover_38 (by decide) (fun q1 => ?_) (fun q1 => ?_)
  · refine r_iconst (v := 0) dX5_cover_45 (by decide) ?_
    exact r_ireturn dX5_cover_46 rfl (k5 q1)
  · refine r_iconst (v := 1) dX5_cover_41 (by decide) ?_
    refine r_goto (tgt := 46) dX5_cover_42 (by decide) ?_
    exact r_ireturn dX5_cover_46 rfl (k6 q1)

set_option maxRecDepth 20000 in
set_option maxHeartbeats 2000000 in
theorem s_X5_hall_0 {G : GG} {nc ns : Nat} {h : PH} {Z : Option Value → PH → Prop} {l0 : Nat} {l1 : Int32} {l2 : Int32} {x1 : Int32} {x2 : Int32} {P3 : PH → Prop}
    (e1 : Ev G m_X5_isOneOfTwo [.int l1] h 0 0 (Ret (some (.int x1)) h))
    (k2 : (x1 = 0) → Z (some (.int (-1))) h)
    (c3 : hK h l0 = 15)
    (c4 : (hR h l0 0) ≠ 0)
    (e5 : (¬ x1 = 0) → Ev G m_X1_holds [.ref (hR h l0 0), .int 0, .int l2] h 0 0 (Ret (some (.int x2)) h))
    (c6 : hK h (hR h l0 0) = 11)
    (c7 : (hR h l0 1) ≠ 0)
    (e8 : (¬ x1 = 0) → (¬ x2 = 0) → Ev G m_X3_refresh [.ref (hR h l0 1)] h 0 0 (RV P3))
    (c9 : hK h (hR h l0 1) = 13)
    (k10 : (¬ x1 = 0) → (¬ x2 = 0) → ∀ (h3 : PH), P3 h3 → hN h3 = (hN h) → hS h3 = (hS h) → RR G nc ns m_X5_hall 28 [some (.ref l0), some (.int l1), some (.int l2)] [] h3 Z)
    (k11 : (¬ x1 = 0) → (x2 = 0) → Z (some (.int (-1))) h) :
    RR G nc ns m_X5_hall 0 [some (.ref l0), some (.int l1), some (.int l2)] [] h Z := by
  refine r_iload_n dX5_hall_0 rfl ?_
  refine r_callS1 (mc := 0) (ms := 0) dX5_hall_1 ck_X5_isOneOfTwo sv_X5_isOneOfTwo lk_RX5_123 (by decide) (by decide) (As := [.int l1]) rfl rfl (Nat.le_of_ble_eq_true rfl) (Or.inl rfl) (Or.inl rfl) (e1) ?_
  refine r_if_eq 19 dX5_hall_4 (by decide) (fun q1 => ?_) (fun q1 => ?_)
  · refine r_iconst (v := (-1)) dX5_hall_19 (by decide) ?_
    exact r_ireturn dX5_hall_20 rfl (k2 q1)
  · refine r_aload_n dX5_hall_7 rfl ?_
    refine r_getR (c := 5) (k := 0) dX5_hall_8 rfl rfl (by decide) fl_RX5_14 (c3) rfl (c4) ?_
    refine r_iconst (v := 0) dX5_hall_11 (by decide) ?_
    refine r_iload_n dX5_hall_12 rfl ?_
    refine r_callV1 (c := 1) (mc := 0) (ms := 0) dX5_hall_13 ck_X1_holds iv_X1_holds sl_X1_holds lk_RX5_62 rfl rfl (c6) (by decide) (by decide) (As := [.int 0, .int l2]) rfl rfl (Nat.le_of_ble_eq_true rfl) (Or.inl rfl) (Or.inl rfl) (e5 q1) ?_
    refine r_if_ne 21 dX5_hall_16 (by decide) (fun q2 => ?_) (fun q2 => ?_)
    · refine r_aload_n dX5_hall_21 rfl ?_
      refine r_getR (c := 5) (k := 1) dX5_hall_22 rfl rfl (by decide) fl_RX5_23 (c3) rfl (c7) ?_
      refine r_callV (c := 3) (mc := 0) (ms := 0) dX5_hall_25 ck_X3_refresh iv_X3_refresh sl_X3_refresh lk_RX5_84 rfl rfl (c9) (by decide) (by decide) (As := []) rfl rfl (Nat.le_of_ble_eq_true rfl) (Or.inl rfl) (Or.inl rfl) (e8 q1 q2) ?_
      rintro v3 h3 ⟨rfl, z3⟩ n3 t3
      exact k10 q1 q2 h3 z3 n3 t3
    · refine r_iconst (v := (-1)) dX5_hall_19 (by decide) ?_
      exact r_ireturn dX5_hall_20 rfl (k11 q1 q2)

set_option maxRecDepth 20000 in
set_option maxHeartbeats 2000000 in
theorem s_X5_hall_28 {G : GG} {nc ns : Nat} {h : PH} {Z : Option Value → PH → Prop} {l0 : Nat} {l1 : Int32} {l2 : Int32} {x1 : Int32}
    (c1 : hK h l0 = 15)
    (c2 : (hR h l0 1) ≠ 0)
    (e3 : Ev G m_X3_partOf [.ref (hR h l0 1), .int 0, .int l2] h 0 0 (Ret (some (.int x1)) h))
    (c4 : hK h (hR h l0 1) = 13)
    (k5 : (l1 < x1) → Z (some (.int 0)) h)
    (k6 : (¬ l1 < x1) → Z (some (.int 1)) h) :
    RR G nc ns m_X5_hall 28 [some (.ref l0), some (.int l1), some (.int l2)] [] h Z := by
  refine r_aload_n dX5_hall_28 rfl ?_
  refine r_getR (c := 5) (k := 1) dX5_hall_29 rfl rfl (by decide) fl_RX5_23 (c1) rfl (c2) ?_
  refine r_iconst (v := 0) dX5_hall_32 (by decide) ?_
  refine r_iload_n dX5_hall_33 rfl ?_
  refine r_callV1 (c := 3) (mc := 0) (ms := 0) dX5_hall_34 ck_X3_partOf iv_X3_partOf sl_X3_partOf lk_RX5_120 rfl rfl (c4) (by decide) (by decide) (As := [.int 0, .int l2]) rfl rfl (Nat.le_of_ble_eq_true rfl) (Or.inl rfl) (Or.inl rfl) (e3) ?_
  refine r_iload_n dX5_hall_37 rfl ?_
  refine r_icmp_gt 45 dX5_hall_38 (by decide) (fun q1 => ?_) (fun q1 => ?_)
  · refine r_iconst (v := 0) dX5_hall_45 (by decide) ?_
    exact r_ireturn dX5_hall_46 rfl (k5 q1)
  · refine r_iconst (v := 1) dX5_hall_41 (by decide) ?_
    refine r_goto (tgt := 46) dX5_hall_42 (by decide) ?_
    exact r_ireturn dX5_hall_46 rfl (k6 q1)

set_option maxRecDepth 20000 in
set_option maxHeartbeats 2000000 in
theorem s_X5_part_0 {G : GG} {nc ns : Nat} {h : PH} {Z : Option Value → PH → Prop} {l0 : Nat} {l1 : Int32} {l2 : Int32} {x1 : Int32} {P2 : PH → Prop}
    (c1 : hK h l0 = 15)
    (c2 : (hR h l0 0) ≠ 0)
    (e3 : Ev G m_X1_holds [.ref (hR h l0 0), .int l1, .int l2] h 0 0 (Ret (some (.int x1)) h))
    (c4 : hK h (hR h l0 0) = 11)
    (c5 : (hR h l0 1) ≠ 0)
    (e6 : (¬ x1 = 0) → Ev G m_X3_refresh [.ref (hR h l0 1)] h 0 0 (RV P2))
    (c7 : hK h (hR h l0 1) = 13)
    (k8 : (¬ x1 = 0) → ∀ (h2 : PH), P2 h2 → hN h2 = (hN h) → hS h2 = (hS h) → RR G nc ns m_X5_part 21 [some (.ref l0), some (.int l1), some (.int l2)] [] h2 Z)
    (k9 : (x1 = 0) → Z (some (.int (-1))) h) :
    RR G nc ns m_X5_part 0 [some (.ref l0), some (.int l1), some (.int l2)] [] h Z := by
  refine r_aload_n dX5_part_0 rfl ?_
  refine r_getR (c := 5) (k := 0) dX5_part_1 rfl rfl (by decide) fl_RX5_14 (c1) rfl (c2) ?_
  refine r_iload_n dX5_part_4 rfl ?_
  refine r_iload_n dX5_part_5 rfl ?_
  refine r_callV1 (c := 1) (mc := 0) (ms := 0) dX5_part_6 ck_X1_holds iv_X1_holds sl_X1_holds lk_RX5_62 rfl rfl (c4) (by decide) (by decide) (As := [.int l1, .int l2]) rfl rfl (Nat.le_of_ble_eq_true rfl) (Or.inl rfl) (Or.inl rfl) (e3) ?_
  refine r_if_ne 14 dX5_part_9 (by decide) (fun q1 => ?_) (fun q1 => ?_)
  · refine r_aload_n dX5_part_14 rfl ?_
    refine r_getR (c := 5) (k := 1) dX5_part_15 rfl rfl (by decide) fl_RX5_23 (c1) rfl (c5) ?_
    refine r_callV (c := 3) (mc := 0) (ms := 0) dX5_part_18 ck_X3_refresh iv_X3_refresh sl_X3_refresh lk_RX5_84 rfl rfl (c7) (by decide) (by decide) (As := []) rfl rfl (Nat.le_of_ble_eq_true rfl) (Or.inl rfl) (Or.inl rfl) (e6 q1) ?_
    rintro v2 h2 ⟨rfl, z2⟩ n2 t2
    exact k8 q1 h2 z2 n2 t2
  · refine r_iconst (v := (-1)) dX5_part_12 (by decide) ?_
    exact r_ireturn dX5_part_13 rfl (k9 q1)

set_option maxRecDepth 20000 in
set_option maxHeartbeats 2000000 in
theorem s_X5_part_21 {G : GG} {nc ns : Nat} {h : PH} {Z : Option Value → PH → Prop} {l0 : Nat} {l1 : Int32} {l2 : Int32} {x1 : Int32}
    (c1 : hK h l0 = 15)
    (c2 : (hR h l0 1) ≠ 0)
    (e3 : Ev G m_X3_partOf [.ref (hR h l0 1), .int l1, .int l2] h 0 0 (Ret (some (.int x1)) h))
    (c4 : hK h (hR h l0 1) = 13)
    (k5 : Z (some (.int x1)) h) :
    RR G nc ns m_X5_part 21 [some (.ref l0), some (.int l1), some (.int l2)] [] h Z := by
  refine r_aload_n dX5_part_21 rfl ?_
  refine r_getR (c := 5) (k := 1) dX5_part_22 rfl rfl (by decide) fl_RX5_23 (c1) rfl (c2) ?_
  refine r_iload_n dX5_part_25 rfl ?_
  refine r_iload_n dX5_part_26 rfl ?_
  refine r_callV1 (c := 3) (mc := 0) (ms := 0) dX5_part_27 ck_X3_partOf iv_X3_partOf sl_X3_partOf lk_RX5_120 rfl rfl (c4) (by decide) (by decide) (As := [.int l1, .int l2]) rfl rfl (Nat.le_of_ble_eq_true rfl) (Or.inl rfl) (Or.inl rfl) (e3) ?_
  exact r_ireturn dX5_part_30 rfl (k5)

set_option maxRecDepth 20000 in
set_option maxHeartbeats 2000000 in
theorem s_X5_block_0 {G : GG} {nc ns : Nat} {h : PH} {Z : Option Value → PH → Prop} {l0 : Nat} {l1 : Int32} {l2 : Int32} {x1 : Int32} {P2 : PH → Prop}
    (c1 : hK h l0 = 15)
    (c2 : (hR h l0 0) ≠ 0)
    (e3 : Ev G m_X1_holds [.ref (hR h l0 0), .int l1, .int l2] h 0 0 (Ret (some (.int x1)) h))
    (c4 : hK h (hR h l0 0) = 11)
    (c5 : (hR h l0 1) ≠ 0)
    (e6 : (¬ x1 = 0) → Ev G m_X3_refresh [.ref (hR h l0 1)] h 0 0 (RV P2))
    (c7 : hK h (hR h l0 1) = 13)
    (k8 : (¬ x1 = 0) → ∀ (h2 : PH), P2 h2 → hN h2 = (hN h) → hS h2 = (hS h) → RR G nc ns m_X5_block 21 [some (.ref l0), some (.int l1), some (.int l2)] [] h2 Z)
    (k9 : (x1 = 0) → Z (some (.int (-1))) h) :
    RR G nc ns m_X5_block 0 [some (.ref l0), some (.int l1), some (.int l2)] [] h Z := by
  refine r_aload_n dX5_block_0 rfl ?_
  refine r_getR (c := 5) (k := 0) dX5_block_1 rfl rfl (by decide) fl_RX5_14 (c1) rfl (c2) ?_
  refine r_iload_n dX5_block_4 rfl ?_
  refine r_iload_n dX5_block_5 rfl ?_
  refine r_callV1 (c := 1) (mc := 0) (ms := 0) dX5_block_6 ck_X1_holds iv_X1_holds sl_X1_holds lk_RX5_62 rfl rfl (c4) (by decide) (by decide) (As := [.int l1, .int l2]) rfl rfl (Nat.le_of_ble_eq_true rfl) (Or.inl rfl) (Or.inl rfl) (e3) ?_
  refine r_if_ne 14 dX5_block_9 (by decide) (fun q1 => ?_) (fun q1 => ?_)
  · refine r_aload_n dX5_block_14 rfl ?_
    refine r_getR (c := 5) (k := 1) dX5_block_15 rfl rfl (by decide) fl_RX5_23 (c1) rfl (c5) ?_
    refine r_callV (c := 3) (mc := 0) (ms := 0) dX5_block_18 ck_X3_refresh iv_X3_refresh sl_X3_refresh lk_RX5_84 rfl rfl (c7) (by decide) (by decide) (As := []) rfl rfl (Nat.le_of_ble_eq_true rfl) (Or.inl rfl) (Or.inl rfl) (e6 q1) ?_
    rintro v2 h2 ⟨rfl, z2⟩ n2 t2
    exact k8 q1 h2 z2 n2 t2
  · refine r_iconst (v := (-1)) dX5_block_12 (by decide) ?_
    exact r_ireturn dX5_block_13 rfl (k9 q1)

set_option maxRecDepth 20000 in
set_option maxHeartbeats 2000000 in
theorem s_X5_block_21 {G : GG} {nc ns : Nat} {h : PH} {Z : Option Value → PH → Prop} {l0 : Nat} {l1 : Int32} {l2 : Int32} {P1 : PH → Prop}
    (c1 : hK h l0 = 15)
    (c2 : (hR h l0 2) ≠ 0)
    (e3 : Ev G m_X0_refresh [.ref (hR h l0 2)] h 0 0 (RV P1))
    (c4 : hK h (hR h l0 2) = 10)
    (k5 : ∀ (h1 : PH), P1 h1 → hN h1 = (hN h) → hS h1 = (hS h) → RR G nc ns m_X5_block 28 [some (.ref l0), some (.int l1), some (.int l2)] [] h1 Z) :
    RR G nc ns m_X5_block 21 [some (.ref l0), some (.int l1), some (.int l2)] [] h Z := by
  refine r_aload_n dX5_block_21 rfl ?_
  refine r_getR (c := 5) (k := 2) dX5_block_22 rfl rfl (by decide) fl_RX5_32 (c1) rfl (c2) ?_
  refine r_callV (c := 0) (mc := 0) (ms := 0) dX5_block_25 ck_X0_refresh iv_X0_refresh sl_X0_refresh lk_RX5_94 rfl rfl (c4) (by decide) (by decide) (As := []) rfl rfl (Nat.le_of_ble_eq_true rfl) (Or.inl rfl) (Or.inl rfl) (e3) ?_
  rintro v1 h1 ⟨rfl, z1⟩ n1 t1
  exact k5 h1 z1 n1 t1

set_option maxRecDepth 20000 in
set_option maxHeartbeats 2000000 in
theorem s_X5_block_28 {G : GG} {nc ns : Nat} {h : PH} {Z : Option Value → PH → Prop} {l0 : Nat} {l1 : Int32} {l2 : Int32} {x1 : Int32}
    (c1 : hK h l0 = 15)
    (c2 : (hR h l0 2) ≠ 0)
    (e3 : Ev G m_X0_numberOf [.ref (hR h l0 2), .int l1, .int l2] h 0 0 (Ret (some (.int x1)) h))
    (c4 : hK h (hR h l0 2) = 10)
    (k5 : Z (some (.int x1)) h) :
    RR G nc ns m_X5_block 28 [some (.ref l0), some (.int l1), some (.int l2)] [] h Z := by
  refine r_aload_n dX5_block_28 rfl ?_
  refine r_getR (c := 5) (k := 2) dX5_block_29 rfl rfl (by decide) fl_RX5_32 (c1) rfl (c2) ?_
  refine r_iload_n dX5_block_32 rfl ?_
  refine r_iload_n dX5_block_33 rfl ?_
  refine r_callV1 (c := 0) (mc := 0) (ms := 0) dX5_block_34 ck_X0_numberOf iv_X0_numberOf sl_X0_numberOf lk_RX5_130 rfl rfl (c4) (by decide) (by decide) (As := [.int l1, .int l2]) rfl rfl (Nat.le_of_ble_eq_true rfl) (Or.inl rfl) (Or.inl rfl) (e3) ?_
  exact r_ireturn dX5_block_37 rfl (k5)

set_option maxRecDepth 20000 in
set_option maxHeartbeats 2000000 in
theorem s_X5_leads_0 {G : GG} {nc ns : Nat} {h : PH} {Z : Option Value → PH → Prop} {l0 : Nat} {l1 : Int32} {l2 : Int32} {P1 : PH → Prop}
    (c1 : hK h l0 = 15)
    (c2 : (hR h l0 1) ≠ 0)
    (e3 : Ev G m_X3_refresh [.ref (hR h l0 1)] h 0 0 (RV P1))
    (c4 : hK h (hR h l0 1) = 13)
    (k5 : ∀ (h1 : PH), P1 h1 → hN h1 = (hN h) → hS h1 = (hS h) → RR G nc ns m_X5_leads 7 [some (.ref l0), some (.int l1), some (.int l2)] [] h1 Z) :
    RR G nc ns m_X5_leads 0 [some (.ref l0), some (.int l1), some (.int l2)] [] h Z := by
  refine r_aload_n dX5_leads_0 rfl ?_
  refine r_getR (c := 5) (k := 1) dX5_leads_1 rfl rfl (by decide) fl_RX5_23 (c1) rfl (c2) ?_
  refine r_callV (c := 3) (mc := 0) (ms := 0) dX5_leads_4 ck_X3_refresh iv_X3_refresh sl_X3_refresh lk_RX5_84 rfl rfl (c4) (by decide) (by decide) (As := []) rfl rfl (Nat.le_of_ble_eq_true rfl) (Or.inl rfl) (Or.inl rfl) (e3) ?_
  rintro v1 h1 ⟨rfl, z1⟩ n1 t1
  exact k5 h1 z1 n1 t1

set_option maxRecDepth 20000 in
set_option maxHeartbeats 2000000 in
theorem s_X5_leads_7 {G : GG} {nc ns : Nat} {h : PH} {Z : Option Value → PH → Prop} {l0 : Nat} {l1 : Int32} {l2 : Int32} {P1 : PH → Prop}
    (c1 : hK h l0 = 15)
    (c2 : (hR h l0 2) ≠ 0)
    (e3 : Ev G m_X0_refresh [.ref (hR h l0 2)] h 0 0 (RV P1))
    (c4 : hK h (hR h l0 2) = 10)
    (k5 : ∀ (h1 : PH), P1 h1 → hN h1 = (hN h) → hS h1 = (hS h) → RR G nc ns m_X5_leads 14 [some (.ref l0), some (.int l1), some (.int l2)] [] h1 Z) :
    RR G nc ns m_X5_leads 7 [some (.ref l0), some (.int l1), some (.int l2)] [] h Z := by
  refine r_aload_n dX5_leads_7 rfl ?_
  refine r_getR (c := 5) (k := 2) dX5_leads_8 rfl rfl (by decide) fl_RX5_32 (c1) rfl (c2) ?_
  refine r_callV (c := 0) (mc := 0) (ms := 0) dX5_leads_11 ck_X0_refresh iv_X0_refresh sl_X0_refresh lk_RX5_94 rfl rfl (c4) (by decide) (by decide) (As := []) rfl rfl (Nat.le_of_ble_eq_true rfl) (Or.inl rfl) (Or.inl rfl) (e3) ?_
  rintro v1 h1 ⟨rfl, z1⟩ n1 t1
  exact k5 h1 z1 n1 t1

set_option maxRecDepth 20000 in
set_option maxHeartbeats 2000000 in
theorem s_X5_leads_14 {G : GG} {nc ns : Nat} {h : PH} {Z : Option Value → PH → Prop} {l0 : Nat} {l1 : Int32} {l2 : Int32} {x1 : Int32} {x2 : Int32} {x3 : Int32}
    (c1 : hK h l0 = 15)
    (c2 : (hR h l0 2) ≠ 0)
    (e3 : Ev G m_X0_holds [.ref (hR h l0 2), .int l1] h 0 0 (Ret (some (.int x1)) h))
    (c4 : hK h (hR h l0 2) = 10)
    (k5 : (x1 = 0) → Z (some (.int (-1))) h)
    (e6 : (¬ x1 = 0) → Ev G m_X0_holds [.ref (hR h l0 2), .int l2] h 0 0 (Ret (some (.int x2)) h))
    (e7 : (¬ x1 = 0) → (¬ x2 = 0) → Ev G m_X0_comesTo [.ref (hR h l0 2), .int l1, .int l2] h 0 0 (Ret (some (.int x3)) h))
    (k8 : (¬ x1 = 0) → (¬ x2 = 0) → (x3 = 0) → Z (some (.int 0)) h)
    (k9 : (¬ x1 = 0) → (¬ x2 = 0) → (¬ x3 = 0) → Z (some (.int 1)) h)
    (k10 : (¬ x1 = 0) → (x2 = 0) → Z (some (.int (-1))) h) :
    RR G nc ns m_X5_leads 14 [some (.ref l0), some (.int l1), some (.int l2)] [] h Z := by
  refine r_aload_n dX5_leads_14 rfl ?_
  refine r_getR (c := 5) (k := 2) dX5_leads_15 rfl rfl (by decide) fl_RX5_32 (c1) rfl (c2) ?_
  refine r_iload_n dX5_leads_18 rfl ?_
  refine r_callV1 (c := 0) (mc := 0) (ms := 0) dX5_leads_19 ck_X0_holds iv_X0_holds sl_X0_holds lk_RX5_133 rfl rfl (c4) (by decide) (by decide) (As := [.int l1]) rfl rfl (Nat.le_of_ble_eq_true rfl) (Or.inl rfl) (Or.inl rfl) (e3) ?_
  refine r_if_eq 36 dX5_leads_22 (by decide) (fun q1 => ?_) (fun q1 => ?_)
  · refine r_iconst (v := (-1)) dX5_leads_36 (by decide) ?_
    exact r_ireturn dX5_leads_37 rfl (k5 q1)
  · refine r_aload_n dX5_leads_25 rfl ?_
    refine r_getR (c := 5) (k := 2) dX5_leads_26 rfl rfl (by decide) fl_RX5_32 (c1) rfl (c2) ?_
    refine r_iload_n dX5_leads_29 rfl ?_
    refine r_callV1 (c := 0) (mc := 0) (ms := 0) dX5_leads_30 ck_X0_holds iv_X0_holds sl_X0_holds lk_RX5_133 rfl rfl (c4) (by decide) (by decide) (As := [.int l2]) rfl rfl (Nat.le_of_ble_eq_true rfl) (Or.inl rfl) (Or.inl rfl) (e6 q1) ?_
    refine r_if_ne 38 dX5_leads_33 (by decide) (fun q2 => ?_) (fun q2 => ?_)
    · refine r_aload_n dX5_leads_38 rfl ?_
      refine r_getR (c := 5) (k := 2) dX5_leads_39 rfl rfl (by decide) fl_RX5_32 (c1) rfl (c2) ?_
      refine r_iload_n dX5_leads_42 rfl ?_
      refine r_iload_n dX5_leads_43 rfl ?_
      refine r_callV1 (c := 0) (mc := 0) (ms := 0) dX5_leads_44 ck_X0_comesTo iv_X0_comesTo sl_X0_comesTo lk_RX5_135 rfl rfl (c4) (by decide) (by decide) (As := [.int l1, .int l2]) rfl rfl (Nat.le_of_ble_eq_true rfl) (Or.inl rfl) (Or.inl rfl) (e7 q1 q2) ?_
      refine r_if_eq 54 dX5_leads_47 (by decide) (fun q3 => ?_) (fun q3 => ?_)
      · refine r_iconst (v := 0) dX5_leads_54 (by decide) ?_
        exact r_ireturn dX5_leads_55 rfl (k8 q1 q2 q3)
      · refine r_iconst (v := 1) dX5_leads_50 (by decide) ?_
        refine r_goto (tgt := 55) dX5_leads_51 (by decide) ?_
        exact r_ireturn dX5_leads_55 rfl (k9 q1 q2 q3)
    · refine r_iconst (v := (-1)) dX5_leads_36 (by decide) ?_
      exact r_ireturn dX5_leads_37 rfl (k10 q1 q2)

set_option maxRecDepth 20000 in
set_option maxHeartbeats 2000000 in
theorem s_X5_pairings_0 {G : GG} {nc ns : Nat} {h : PH} {Z : Option Value → PH → Prop} {l0 : Nat} {x1 : Int32} {x2 : Int32} {P3 : PH → Prop}
    (c1 : hK h l0 = 15)
    (c2 : (hR h l0 0) ≠ 0)
    (e3 : Ev G m_X1_sizeOf [.ref (hR h l0 0), .int 0] h 0 0 (Ret (some (.int x1)) h))
    (c4 : hK h (hR h l0 0) = 11)
    (k5 : (16 < x1) → Z (some (.long (-3))) h)
    (e6 : (¬ 16 < x1) → Ev G m_X1_sizeOf [.ref (hR h l0 0), .int 1] h 0 0 (Ret (some (.int x2)) h))
    (c7 : (hR h l0 1) ≠ 0)
    (e8 : (¬ 16 < x1) → (x2 ≤ 16) → Ev G m_X3_refresh [.ref (hR h l0 1)] h 0 0 (RV P3))
    (c9 : hK h (hR h l0 1) = 13)
    (k10 : (¬ 16 < x1) → (x2 ≤ 16) → ∀ (h3 : PH), P3 h3 → hN h3 = (hN h) → hS h3 = (hS h) → RR G nc ns m_X5_pairings 37 [some (.ref l0)] [] h3 Z)
    (k11 : (¬ 16 < x1) → (¬ x2 ≤ 16) → Z (some (.long (-3))) h) :
    RR G nc ns m_X5_pairings 0 [some (.ref l0)] [] h Z := by
  refine r_aload_n dX5_pairings_0 rfl ?_
  refine r_getR (c := 5) (k := 0) dX5_pairings_1 rfl rfl (by decide) fl_RX5_14 (c1) rfl (c2) ?_
  refine r_iconst (v := 0) dX5_pairings_4 (by decide) ?_
  refine r_callV1 (c := 1) (mc := 0) (ms := 0) dX5_pairings_5 ck_X1_sizeOf iv_X1_sizeOf sl_X1_sizeOf lk_RX5_77 rfl rfl (c4) (by decide) (by decide) (As := [.int 0]) rfl rfl (Nat.le_of_ble_eq_true rfl) (Or.inl rfl) (Or.inl rfl) (e3) ?_
  refine r_bipush (v := 16) dX5_pairings_8 (by decide) ?_
  refine r_icmp_gt 26 dX5_pairings_10 (by decide) (fun q1 => ?_) (fun q1 => ?_)
  · refine r_ldc2 (v := (-3)) dX5_pairings_26 cn_RX5_138 ?_
    exact r_lreturn dX5_pairings_29 rfl (k5 q1)
  · refine r_aload_n dX5_pairings_13 rfl ?_
    refine r_getR (c := 5) (k := 0) dX5_pairings_14 rfl rfl (by decide) fl_RX5_14 (c1) rfl (c2) ?_
    refine r_iconst (v := 1) dX5_pairings_17 (by decide) ?_
    refine r_callV1 (c := 1) (mc := 0) (ms := 0) dX5_pairings_18 ck_X1_sizeOf iv_X1_sizeOf sl_X1_sizeOf lk_RX5_77 rfl rfl (c4) (by decide) (by decide) (As := [.int 1]) rfl rfl (Nat.le_of_ble_eq_true rfl) (Or.inl rfl) (Or.inl rfl) (e6 q1) ?_
    refine r_bipush (v := 16) dX5_pairings_21 (by decide) ?_
    refine r_icmp_le 30 dX5_pairings_23 (by decide) (fun q2 => ?_) (fun q2 => ?_)
    · refine r_aload_n dX5_pairings_30 rfl ?_
      refine r_getR (c := 5) (k := 1) dX5_pairings_31 rfl rfl (by decide) fl_RX5_23 (c1) rfl (c7) ?_
      refine r_callV (c := 3) (mc := 0) (ms := 0) dX5_pairings_34 ck_X3_refresh iv_X3_refresh sl_X3_refresh lk_RX5_84 rfl rfl (c9) (by decide) (by decide) (As := []) rfl rfl (Nat.le_of_ble_eq_true rfl) (Or.inl rfl) (Or.inl rfl) (e8 q1 q2) ?_
      rintro v3 h3 ⟨rfl, z3⟩ n3 t3
      exact k10 q1 q2 h3 z3 n3 t3
    · refine r_ldc2 (v := (-3)) dX5_pairings_26 cn_RX5_138 ?_
      exact r_lreturn dX5_pairings_29 rfl (k11 q1 q2)

set_option maxRecDepth 20000 in
set_option maxHeartbeats 2000000 in
theorem s_X5_pairings_37 {G : GG} {nc ns : Nat} {h : PH} {Z : Option Value → PH → Prop} {l0 : Nat} {P1 : PH → Prop}
    (c1 : hK h l0 = 15)
    (c2 : (hR h l0 2) ≠ 0)
    (e3 : Ev G m_X0_refresh [.ref (hR h l0 2)] h 0 0 (RV P1))
    (c4 : hK h (hR h l0 2) = 10)
    (k5 : ∀ (h1 : PH), P1 h1 → hN h1 = (hN h) → hS h1 = (hS h) → RR G nc ns m_X5_pairings 44 [some (.ref l0)] [] h1 Z) :
    RR G nc ns m_X5_pairings 37 [some (.ref l0)] [] h Z := by
  refine r_aload_n dX5_pairings_37 rfl ?_
  refine r_getR (c := 5) (k := 2) dX5_pairings_38 rfl rfl (by decide) fl_RX5_32 (c1) rfl (c2) ?_
  refine r_callV (c := 0) (mc := 0) (ms := 0) dX5_pairings_41 ck_X0_refresh iv_X0_refresh sl_X0_refresh lk_RX5_94 rfl rfl (c4) (by decide) (by decide) (As := []) rfl rfl (Nat.le_of_ble_eq_true rfl) (Or.inl rfl) (Or.inl rfl) (e3) ?_
  rintro v1 h1 ⟨rfl, z1⟩ n1 t1
  exact k5 h1 z1 n1 t1

set_option maxRecDepth 20000 in
set_option maxHeartbeats 2000000 in
theorem s_X5_pairings_44 {G : GG} {nc ns : Nat} {h : PH} {Z : Option Value → PH → Prop} {l0 : Nat} {mc1 : Nat} {ms1 : Nat} {P1 : PH → Prop}
    (c1 : hK h l0 = 15)
    (c2 : (hR h l0 3) ≠ 0)
    (c3 : (hN h) + mc1 ≤ nc)
    (c4 : (hS h) + ms1 ≤ ns)
    (e5 : Ev G m_X4_refresh [.ref (hR h l0 3)] h mc1 ms1 (RV P1))
    (c6 : hK h (hR h l0 3) = 14)
    (k7 : ∀ (h1 : PH), P1 h1 → hN h1 = (hN h) + mc1 → hS h1 = (hS h) + ms1 → RR G nc ns m_X5_pairings 51 [some (.ref l0)] [] h1 Z) :
    RR G nc ns m_X5_pairings 44 [some (.ref l0)] [] h Z := by
  refine r_aload_n dX5_pairings_44 rfl ?_
  refine r_getR (c := 5) (k := 3) dX5_pairings_45 rfl rfl (by decide) fl_RX5_41 (c1) rfl (c2) ?_
  refine r_callV (c := 4) (mc := mc1) (ms := ms1) dX5_pairings_48 ck_X4_refresh iv_X4_refresh sl_X4_refresh lk_RX5_140 rfl rfl (c6) (by decide) (by decide) (As := []) rfl rfl (Nat.le_of_ble_eq_true rfl) (Or.inr (c3)) (Or.inr (c4)) (e5) ?_
  rintro v1 h1 ⟨rfl, z1⟩ n1 t1
  exact k7 h1 z1 n1 t1

set_option maxRecDepth 20000 in
set_option maxHeartbeats 2000000 in
theorem s_X5_pairings_51 {G : GG} {nc ns : Nat} {h : PH} {Z : Option Value → PH → Prop} {l0 : Nat} {x1 : Int64}
    (c1 : hK h l0 = 15)
    (c2 : (hR h l0 3) ≠ 0)
    (e3 : Ev G m_X4_total [.ref (hR h l0 3)] h 0 0 (Ret (some (.long x1)) h))
    (c4 : hK h (hR h l0 3) = 14)
    (k5 : Z (some (.long x1)) h) :
    RR G nc ns m_X5_pairings 51 [some (.ref l0)] [] h Z := by
  refine r_aload_n dX5_pairings_51 rfl ?_
  refine r_getR (c := 5) (k := 3) dX5_pairings_52 rfl rfl (by decide) fl_RX5_41 (c1) rfl (c2) ?_
  refine r_callV1 (c := 4) (mc := 0) (ms := 0) dX5_pairings_55 ck_X4_total iv_X4_total sl_X4_total lk_RX5_141 rfl rfl (c4) (by decide) (by decide) (As := []) rfl rfl (Nat.le_of_ble_eq_true rfl) (Or.inl rfl) (Or.inl rfl) (e3) ?_
  exact r_lreturn dX5_pairings_58 rfl (k5)

set_option maxRecDepth 20000 in
set_option maxHeartbeats 2000000 in
theorem s_X5_thing_0 {G : GG} {nc ns : Nat} {h : PH} {Z : Option Value → PH → Prop} {l0 : Nat} {P1 : Int32 → PH → Prop}
    (c1 : hK h l0 = 15)
    (c2 : (hR h l0 4) ≠ 0)
    (e3 : Ev G m_X1_add [.ref (hR h l0 4), .int 0] h 0 0 (RI P1))
    (c4 : hK h (hR h l0 4) = 11)
    (k5 : ∀ (x1 : Int32) (h1 : PH), P1 x1 h1 → hN h1 = (hN h) → hS h1 = (hS h) → RR G nc ns m_X5_thing 8 [some (.ref l0)] [.int x1] h1 Z) :
    RR G nc ns m_X5_thing 0 [some (.ref l0)] [] h Z := by
  refine r_aload_n dX5_thing_0 rfl ?_
  refine r_getR (c := 5) (k := 4) dX5_thing_1 rfl rfl (by decide) fl_RX5_45 (c1) rfl (c2) ?_
  refine r_iconst (v := 0) dX5_thing_4 (by decide) ?_
  refine r_callV (c := 1) (mc := 0) (ms := 0) dX5_thing_5 ck_X1_add iv_X1_add sl_X1_add lk_RX5_58 rfl rfl (c4) (by decide) (by decide) (As := [.int 0]) rfl rfl (Nat.le_of_ble_eq_true rfl) (Or.inl rfl) (Or.inl rfl) (e3) ?_
  rintro v1 h1 ⟨x1, rfl, z1⟩ n1 t1
  exact k5 x1 h1 z1 n1 t1

set_option maxRecDepth 20000 in
set_option maxHeartbeats 2000000 in
theorem s_X5_thing_8 {G : GG} {nc ns : Nat} {h : PH} {Z : Option Value → PH → Prop} {l0 : Nat} {s0 : Int32} {P1 : Int32 → PH → Prop}
    (c1 : hK h l0 = 15)
    (c2 : (hR h l0 4) ≠ 0)
    (e3 : Ev G m_X1_add [.ref (hR h l0 4), .int 1] h 0 0 (RI P1))
    (c4 : hK h (hR h l0 4) = 11)
    (k5 : ∀ (x1 : Int32) (h1 : PH), P1 x1 h1 → hN h1 = (hN h) → hS h1 = (hS h) → RR G nc ns m_X5_thing 17 [some (.ref l0)] [.int x1] h1 Z) :
    RR G nc ns m_X5_thing 8 [some (.ref l0)] [.int s0] h Z := by
  refine r_pop dX5_thing_8 rfl ?_
  refine r_aload_n dX5_thing_9 rfl ?_
  refine r_getR (c := 5) (k := 4) dX5_thing_10 rfl rfl (by decide) fl_RX5_45 (c1) rfl (c2) ?_
  refine r_iconst (v := 1) dX5_thing_13 (by decide) ?_
  refine r_callV (c := 1) (mc := 0) (ms := 0) dX5_thing_14 ck_X1_add iv_X1_add sl_X1_add lk_RX5_58 rfl rfl (c4) (by decide) (by decide) (As := [.int 1]) rfl rfl (Nat.le_of_ble_eq_true rfl) (Or.inl rfl) (Or.inl rfl) (e3) ?_
  rintro v1 h1 ⟨x1, rfl, z1⟩ n1 t1
  exact k5 x1 h1 z1 n1 t1

set_option maxRecDepth 20000 in
set_option maxHeartbeats 2000000 in
theorem s_X5_thing_17 {G : GG} {nc ns : Nat} {h : PH} {Z : Option Value → PH → Prop} {l0 : Nat} {s0 : Int32}
    (k1 : Z (some (.int s0)) h) :
    RR G nc ns m_X5_thing 17 [some (.ref l0)] [.int s0] h Z := by
  exact r_ireturn dX5_thing_17 rfl (k1)

set_option maxRecDepth 20000 in
set_option maxHeartbeats 2000000 in
theorem s_X5_tell_0 {G : GG} {nc ns : Nat} {h : PH} {Z : Option Value → PH → Prop} {l0 : Nat} {l1 : Int32} {l2 : Int32} {x1 : Int32} {x2 : Int32} {x3 : Int32} {x4 : Int32} {x5 : Int64} {x6 : Int64} {P7 : PH → Prop}
    (c1 : hK h l0 = 15)
    (c2 : (hR h l0 4) ≠ 0)
    (e3 : Ev G m_X1_holds [.ref (hR h l0 4), .int 0, .int l1] h 0 0 (Ret (some (.int x1)) h))
    (c4 : hK h (hR h l0 4) = 11)
    (k5 : (x1 = 0) → Z (some (.int (-1))) h)
    (e6 : (¬ x1 = 0) → Ev G m_X1_holds [.ref (hR h l0 4), .int 0, .int l2] h 0 0 (Ret (some (.int x2)) h))
    (k7 : (¬ x1 = 0) → (¬ x2 = 0) → (l1 = l2) → Z (some (.int (-3))) h)
    (e8 : (¬ x1 = 0) → (¬ x2 = 0) → (¬ l1 = l2) → Ev G m_X1_joins [.ref (hR h l0 4), .int l2, .int l1] h 0 0 (Ret (some (.int x3)) h))
    (e9 : (¬ x1 = 0) → (¬ x2 = 0) → (¬ l1 = l2) → (x3 = 0) → Ev G m_X1_joins [.ref (hR h l0 4), .int l1, .int l2] h 0 0 (Ret (some (.int x4)) h))
    (e10 : (¬ x1 = 0) → (¬ x2 = 0) → (¬ l1 = l2) → (x3 = 0) → (x4 = 0) → Ev G m_X1_across [.ref (hR h l0 4), .int 1, .int l1] h 0 0 (Ret (some (.long x5)) h))
    (e11 : (¬ x1 = 0) → (¬ x2 = 0) → (¬ l1 = l2) → (x3 = 0) → (x4 = 0) → Ev G m_X1_across [.ref (hR h l0 4), .int 0, .int l2] h 0 0 (Ret (some (.long x6)) h))
    (e12 : (¬ x1 = 0) → (¬ x2 = 0) → (¬ l1 = l2) → (x3 = 0) → (x4 = 0) → Ev G m_X1_joinAll [.ref (hR h l0 4), .long (x5 ||| (1 <<< (Int32.toInt64 l1 &&& 63))), .long (x6 ||| (1 <<< (Int32.toInt64 l2 &&& 63)))] h 0 0 (RV P7))
    (k13 : (¬ x1 = 0) → (¬ x2 = 0) → (¬ l1 = l2) → (x3 = 0) → (x4 = 0) → ∀ (h7 : PH), P7 h7 → hN h7 = (hN h) → hS h7 = (hS h) → RR G nc ns m_X5_tell 99 [some (.ref l0), some (.int l1), some (.int l2), some (.long (x5 ||| (1 <<< (Int32.toInt64 l1 &&& 63)))), none, some (.long (x6 ||| (1 <<< (Int32.toInt64 l2 &&& 63)))), none] [] h7 Z)
    (k14 : (¬ x1 = 0) → (¬ x2 = 0) → (¬ l1 = l2) → (x3 = 0) → (¬ x4 = 0) → Z (some (.int 0)) h)
    (k15 : (¬ x1 = 0) → (¬ x2 = 0) → (¬ l1 = l2) → (¬ x3 = 0) → Z (some (.int (-3))) h)
    (k16 : (¬ x1 = 0) → (x2 = 0) → Z (some (.int (-1))) h) :
    RR G nc ns m_X5_tell 0 [some (.ref l0), some (.int l1), some (.int l2), none, none, none, none] [] h Z := by
  refine r_aload_n dX5_tell_0 rfl ?_
  refine r_getR (c := 5) (k := 4) dX5_tell_1 rfl rfl (by decide) fl_RX5_45 (c1) rfl (c2) ?_
  refine r_iconst (v := 0) dX5_tell_4 (by decide) ?_
  refine r_iload_n dX5_tell_5 rfl ?_
  refine r_callV1 (c := 1) (mc := 0) (ms := 0) dX5_tell_6 ck_X1_holds iv_X1_holds sl_X1_holds lk_RX5_62 rfl rfl (c4) (by decide) (by decide) (As := [.int 0, .int l1]) rfl rfl (Nat.le_of_ble_eq_true rfl) (Or.inl rfl) (Or.inl rfl) (e3) ?_
  refine r_if_eq 24 dX5_tell_9 (by decide) (fun q1 => ?_) (fun q1 => ?_)
  · refine r_iconst (v := (-1)) dX5_tell_24 (by decide) ?_
    exact r_ireturn dX5_tell_25 rfl (k5 q1)
  · refine r_aload_n dX5_tell_12 rfl ?_
    refine r_getR (c := 5) (k := 4) dX5_tell_13 rfl rfl (by decide) fl_RX5_45 (c1) rfl (c2) ?_
    refine r_iconst (v := 0) dX5_tell_16 (by decide) ?_
    refine r_iload_n dX5_tell_17 rfl ?_
    refine r_callV1 (c := 1) (mc := 0) (ms := 0) dX5_tell_18 ck_X1_holds iv_X1_holds sl_X1_holds lk_RX5_62 rfl rfl (c4) (by decide) (by decide) (As := [.int 0, .int l2]) rfl rfl (Nat.le_of_ble_eq_true rfl) (Or.inl rfl) (Or.inl rfl) (e6 q1) ?_
    refine r_if_ne 26 dX5_tell_21 (by decide) (fun q2 => ?_) (fun q2 => ?_)
    · refine r_iload_n dX5_tell_26 rfl ?_
      refine r_iload_n dX5_tell_27 rfl ?_
      refine r_icmp_eq 43 dX5_tell_28 (by decide) (fun q3 => ?_) (fun q3 => ?_)
      · refine r_bipush (v := (-3)) dX5_tell_43 (by decide) ?_
        exact r_ireturn dX5_tell_45 rfl (k7 q1 q2 q3)
      · refine r_aload_n dX5_tell_31 rfl ?_
        refine r_getR (c := 5) (k := 4) dX5_tell_32 rfl rfl (by decide) fl_RX5_45 (c1) rfl (c2) ?_
        refine r_iload_n dX5_tell_35 rfl ?_
        refine r_iload_n dX5_tell_36 rfl ?_
        refine r_callV1 (c := 1) (mc := 0) (ms := 0) dX5_tell_37 ck_X1_joins iv_X1_joins sl_X1_joins lk_RX5_66 rfl rfl (c4) (by decide) (by decide) (As := [.int l2, .int l1]) rfl rfl (Nat.le_of_ble_eq_true rfl) (Or.inl rfl) (Or.inl rfl) (e8 q1 q2 q3) ?_
        refine r_if_eq 46 dX5_tell_40 (by decide) (fun q4 => ?_) (fun q4 => ?_)
        · refine r_aload_n dX5_tell_46 rfl ?_
          refine r_getR (c := 5) (k := 4) dX5_tell_47 rfl rfl (by decide) fl_RX5_45 (c1) rfl (c2) ?_
          refine r_iload_n dX5_tell_50 rfl ?_
          refine r_iload_n dX5_tell_51 rfl ?_
          refine r_callV1 (c := 1) (mc := 0) (ms := 0) dX5_tell_52 ck_X1_joins iv_X1_joins sl_X1_joins lk_RX5_66 rfl rfl (c4) (by decide) (by decide) (As := [.int l1, .int l2]) rfl rfl (Nat.le_of_ble_eq_true rfl) (Or.inl rfl) (Or.inl rfl) (e9 q1 q2 q3 q4) ?_
          refine r_if_eq 60 dX5_tell_55 (by decide) (fun q5 => ?_) (fun q5 => ?_)
          · refine r_aload_n dX5_tell_60 rfl ?_
            refine r_getR (c := 5) (k := 4) dX5_tell_61 rfl rfl (by decide) fl_RX5_45 (c1) rfl (c2) ?_
            refine r_iconst (v := 1) dX5_tell_64 (by decide) ?_
            refine r_iload_n dX5_tell_65 rfl ?_
            refine r_callV1 (c := 1) (mc := 0) (ms := 0) dX5_tell_66 ck_X1_across iv_X1_across sl_X1_across lk_RX5_145 rfl rfl (c4) (by decide) (by decide) (As := [.int 1, .int l1]) rfl rfl (Nat.le_of_ble_eq_true rfl) (Or.inl rfl) (Or.inl rfl) (e10 q1 q2 q3 q4 q5) ?_
            refine r_lconst (v := 1) dX5_tell_69 (by decide) ?_
            refine r_iload_n dX5_tell_70 rfl ?_
            refine r_lshl dX5_tell_71 ?_
            refine r_lor dX5_tell_72 ?_
            refine r_lstore_nL [some (.ref l0), some (.int l1), some (.int l2), some (.long (x5 ||| (1 <<< (Int32.toInt64 l1 &&& 63)))), none, none, none] dX5_tell_73 (by decide) rfl ?_
            refine r_aload_n dX5_tell_74 rfl ?_
            refine r_getR (c := 5) (k := 4) dX5_tell_75 rfl rfl (by decide) fl_RX5_45 (c1) rfl (c2) ?_
            refine r_iconst (v := 0) dX5_tell_78 (by decide) ?_
            refine r_iload_n dX5_tell_79 rfl ?_
            refine r_callV1 (c := 1) (mc := 0) (ms := 0) dX5_tell_80 ck_X1_across iv_X1_across sl_X1_across lk_RX5_145 rfl rfl (c4) (by decide) (by decide) (As := [.int 0, .int l2]) rfl rfl (Nat.le_of_ble_eq_true rfl) (Or.inl rfl) (Or.inl rfl) (e11 q1 q2 q3 q4 q5) ?_
            refine r_lconst (v := 1) dX5_tell_83 (by decide) ?_
            refine r_iload_n dX5_tell_84 rfl ?_
            refine r_lshl dX5_tell_85 ?_
            refine r_lor dX5_tell_86 ?_
            refine r_lstoreL [some (.ref l0), some (.int l1), some (.int l2), some (.long (x5 ||| (1 <<< (Int32.toInt64 l1 &&& 63)))), none, some (.long (x6 ||| (1 <<< (Int32.toInt64 l2 &&& 63)))), none] dX5_tell_87 (by decide) rfl ?_
            refine r_aload_n dX5_tell_89 rfl ?_
            refine r_getR (c := 5) (k := 4) dX5_tell_90 rfl rfl (by decide) fl_RX5_45 (c1) rfl (c2) ?_
            refine r_lload_n dX5_tell_93 rfl ?_
            refine r_lload dX5_tell_94 rfl ?_
            refine r_callV (c := 1) (mc := 0) (ms := 0) dX5_tell_96 ck_X1_joinAll iv_X1_joinAll sl_X1_joinAll lk_RX5_69 rfl rfl (c4) (by decide) (by decide) (As := [.long (x5 ||| (1 <<< (Int32.toInt64 l1 &&& 63))), .long (x6 ||| (1 <<< (Int32.toInt64 l2 &&& 63)))]) rfl rfl (Nat.le_of_ble_eq_true rfl) (Or.inl rfl) (Or.inl rfl) (e12 q1 q2 q3 q4 q5) ?_
            rintro v7 h7 ⟨rfl, z7⟩ n7 t7
            exact k13 q1 q2 q3 q4 q5 h7 z7 n7 t7
          · refine r_iconst (v := 0) dX5_tell_58 (by decide) ?_
            exact r_ireturn dX5_tell_59 rfl (k14 q1 q2 q3 q4 q5)
        · refine r_bipush (v := (-3)) dX5_tell_43 (by decide) ?_
          exact r_ireturn dX5_tell_45 rfl (k15 q1 q2 q3 q4)
    · refine r_iconst (v := (-1)) dX5_tell_24 (by decide) ?_
      exact r_ireturn dX5_tell_25 rfl (k16 q1 q2)

set_option maxRecDepth 20000 in
set_option maxHeartbeats 2000000 in
theorem s_X5_tell_99 {G : GG} {nc ns : Nat} {h : PH} {Z : Option Value → PH → Prop} {l0 : Nat} {l1 : Int32} {l2 : Int32} {l3 : Int64} {l5 : Int64}
    (k1 : Z (some (.int 1)) h) :
    RR G nc ns m_X5_tell 99 [some (.ref l0), some (.int l1), some (.int l2), some (.long l3), none, some (.long l5), none] [] h Z := by
  refine r_iconst (v := 1) dX5_tell_99 (by decide) ?_
  exact r_ireturn dX5_tell_100 rfl (k1)

set_option maxRecDepth 20000 in
set_option maxHeartbeats 2000000 in
theorem s_X5_below_0 {G : GG} {nc ns : Nat} {h : PH} {Z : Option Value → PH → Prop} {l0 : Nat} {l1 : Int32} {l2 : Int32} {x1 : Int32}
    (c1 : hK h l0 = 15)
    (c2 : (hR h l0 4) ≠ 0)
    (e3 : Ev G m_X1_joins [.ref (hR h l0 4), .int l1, .int l2] h 0 0 (Ret (some (.int x1)) h))
    (c4 : hK h (hR h l0 4) = 11)
    (k5 : Z (some (.int x1)) h)
    (c6 : (x1 = 0 ∨ x1 = 1)) :
    RR G nc ns m_X5_below 0 [some (.ref l0), some (.int l1), some (.int l2)] [] h Z := by
  refine r_aload_n dX5_below_0 rfl ?_
  refine r_getR (c := 5) (k := 4) dX5_below_1 rfl rfl (by decide) fl_RX5_45 (c1) rfl (c2) ?_
  refine r_iload_n dX5_below_4 rfl ?_
  refine r_iload_n dX5_below_5 rfl ?_
  refine r_callV1 (c := 1) (mc := 0) (ms := 0) dX5_below_6 ck_X1_joins iv_X1_joins sl_X1_joins lk_RX5_66 rfl rfl (c4) (by decide) (by decide) (As := [.int l1, .int l2]) rfl rfl (Nat.le_of_ble_eq_true rfl) (Or.inl rfl) (Or.inl rfl) (e3) ?_
  exact r_zreturn dX5_below_9 rfl (c6) (k5)

set_option maxRecDepth 20000 in
set_option maxHeartbeats 2000000 in
theorem s_X5_about_0 {G : GG} {nc ns : Nat} {h : PH} {Z : Option Value → PH → Prop} {l0 : Nat} {l1 : Int32} {l2 : Int32} {x1 : Int32} {P2 : PH → Prop}
    (c1 : hK h l0 = 15)
    (c2 : (hR h l0 4) ≠ 0)
    (e3 : Ev G m_X1_holds [.ref (hR h l0 4), .int 0, .int l1] h 0 0 (Ret (some (.int x1)) h))
    (c4 : hK h (hR h l0 4) = 11)
    (c5 : (hR h l0 5) ≠ 0)
    (e6 : (¬ x1 = 0) → Ev G m_X3_refresh [.ref (hR h l0 5)] h 0 0 (RV P2))
    (c7 : hK h (hR h l0 5) = 13)
    (k8 : (¬ x1 = 0) → ∀ (h2 : PH), P2 h2 → hN h2 = (hN h) → hS h2 = (hS h) → RR G nc ns m_X5_about 21 [some (.ref l0), some (.int l1), some (.int l2)] [] h2 Z)
    (k9 : (x1 = 0) → Z (some (.int (-1))) h) :
    RR G nc ns m_X5_about 0 [some (.ref l0), some (.int l1), some (.int l2)] [] h Z := by
  refine r_aload_n dX5_about_0 rfl ?_
  refine r_getR (c := 5) (k := 4) dX5_about_1 rfl rfl (by decide) fl_RX5_45 (c1) rfl (c2) ?_
  refine r_iconst (v := 0) dX5_about_4 (by decide) ?_
  refine r_iload_n dX5_about_5 rfl ?_
  refine r_callV1 (c := 1) (mc := 0) (ms := 0) dX5_about_6 ck_X1_holds iv_X1_holds sl_X1_holds lk_RX5_62 rfl rfl (c4) (by decide) (by decide) (As := [.int 0, .int l1]) rfl rfl (Nat.le_of_ble_eq_true rfl) (Or.inl rfl) (Or.inl rfl) (e3) ?_
  refine r_if_ne 14 dX5_about_9 (by decide) (fun q1 => ?_) (fun q1 => ?_)
  · refine r_aload_n dX5_about_14 rfl ?_
    refine r_getR (c := 5) (k := 5) dX5_about_15 rfl rfl (by decide) fl_RX5_48 (c1) rfl (c5) ?_
    refine r_callV (c := 3) (mc := 0) (ms := 0) dX5_about_18 ck_X3_refresh iv_X3_refresh sl_X3_refresh lk_RX5_84 rfl rfl (c7) (by decide) (by decide) (As := []) rfl rfl (Nat.le_of_ble_eq_true rfl) (Or.inl rfl) (Or.inl rfl) (e6 q1) ?_
    rintro v2 h2 ⟨rfl, z2⟩ n2 t2
    exact k8 q1 h2 z2 n2 t2
  · refine r_iconst (v := (-1)) dX5_about_12 (by decide) ?_
    exact r_ireturn dX5_about_13 rfl (k9 q1)

set_option maxRecDepth 20000 in
set_option maxHeartbeats 2000000 in
theorem s_X5_about_21 {G : GG} {nc ns : Nat} {h : PH} {Z : Option Value → PH → Prop} {l0 : Nat} {l1 : Int32} {l2 : Int32} {P1 : PH → Prop}
    (c1 : hK h l0 = 15)
    (c2 : (hR h l0 6) ≠ 0)
    (e3 : Ev G m_X2_refresh [.ref (hR h l0 6)] h 0 0 (RV P1))
    (c4 : hK h (hR h l0 6) = 12)
    (k5 : ∀ (h1 : PH), P1 h1 → hN h1 = (hN h) → hS h1 = (hS h) → RR G nc ns m_X5_about 28 [some (.ref l0), some (.int l1), some (.int l2)] [] h1 Z) :
    RR G nc ns m_X5_about 21 [some (.ref l0), some (.int l1), some (.int l2)] [] h Z := by
  refine r_aload_n dX5_about_21 rfl ?_
  refine r_getR (c := 5) (k := 6) dX5_about_22 rfl rfl (by decide) fl_RX5_54 (c1) rfl (c2) ?_
  refine r_callV (c := 2) (mc := 0) (ms := 0) dX5_about_25 ck_X2_refresh iv_X2_refresh sl_X2_refresh lk_RX5_87 rfl rfl (c4) (by decide) (by decide) (As := []) rfl rfl (Nat.le_of_ble_eq_true rfl) (Or.inl rfl) (Or.inl rfl) (e3) ?_
  rintro v1 h1 ⟨rfl, z1⟩ n1 t1
  exact k5 h1 z1 n1 t1

set_option maxRecDepth 20000 in
set_option maxHeartbeats 2000000 in
theorem s_X5_about_28 {G : GG} {nc ns : Nat} {h : PH} {Z : Option Value → PH → Prop} {l0 : Nat} {l1 : Int32} {l2 : Int32} {x1 : Int32} {x2 : Int32} {x3 : Int32} {x4 : Int32} {x5 : Int32}
    (k1 : (l2 < 0 ∨ 4 < l2) → Z (some (.int (-1))) h)
    (c2 : hK h l0 = 15)
    (c3 : (hR h l0 6) ≠ 0)
    (e4 : (l2 = 0) → Ev G m_X2_chainOf [.ref (hR h l0 6), .int l1] h 0 0 (Ret (some (.int x1)) h))
    (c5 : hK h (hR h l0 6) = 12)
    (k6 : (l2 = 0) → Z (some (.int x1)) h)
    (c7 : (hR h l0 5) ≠ 0)
    (e8 : (l2 = 1) → Ev G m_X3_mateOf [.ref (hR h l0 5), .int 0, .int l1] h 0 0 (Ret (some (.int x2)) h))
    (c9 : hK h (hR h l0 5) = 13)
    (k10 : (l2 = 1) → Z (some (.int x2)) h)
    (e11 : (l2 = 2) → Ev G m_X2_levelOf [.ref (hR h l0 6), .int l1] h 0 0 (Ret (some (.int x3)) h))
    (k12 : (l2 = 2) → Z (some (.int x3)) h)
    (e13 : (l2 = 3) → Ev G m_X2_isInAntichain [.ref (hR h l0 6), .int (l2 - 3), .int l1] h 0 0 (Ret (some (.int x4)) h))
    (k14 : (l2 = 3) → (x4 = 0) → Z (some (.int 0)) h)
    (k15 : (l2 = 3) → (¬ x4 = 0) → Z (some (.int 1)) h)
    (e16 : (l2 = 4) → Ev G m_X2_isInAntichain [.ref (hR h l0 6), .int (l2 - 3), .int l1] h 0 0 (Ret (some (.int x5)) h))
    (k17 : (l2 = 4) → (x5 = 0) → Z (some (.int 0)) h)
    (k18 : (l2 = 4) → (¬ x5 = 0) → Z (some (.int 1)) h) :
    RR G nc ns m_X5_about 28 [some (.ref l0), some (.int l1), some (.int l2)] [] h Z := by
  refine r_iload_n dX5_about_28 rfl ?_
  by_cases q1 : l2 < 0 ∨ 4 < l2
  · refine r_tableOut (tgt := 112) dX5_about_29 (sw_out (by decide) (by decide) q1) (by decide) ?_
    refine r_iconst (v := (-1)) dX5_about_112 (by decide) ?_
    exact r_ireturn dX5_about_113 rfl (k1 q1)
  · rcases sw_in_0_4 q1 with q9 | q9 | q9 | q9 | q9
    · have q2 : l2 = 0 := q9
      refine r_tableIn (off := 35) (tgt := 64) dX5_about_29 (by rw [q2]; decide) (by rw [q2]; decide) (by rw [q2]; rfl) (by decide) ?_
      refine r_aload_n dX5_about_64 rfl ?_
      refine r_getR (c := 5) (k := 6) dX5_about_65 rfl rfl (by decide) fl_RX5_54 (c2) rfl (c3) ?_
      refine r_iload_n dX5_about_68 rfl ?_
      refine r_callV1 (c := 2) (mc := 0) (ms := 0) dX5_about_69 ck_X2_chainOf iv_X2_chainOf sl_X2_chainOf lk_RX5_149 rfl rfl (c5) (by decide) (by decide) (As := [.int l1]) rfl rfl (Nat.le_of_ble_eq_true rfl) (Or.inl rfl) (Or.inl rfl) (e4 q2) ?_
      exact r_ireturn dX5_about_72 rfl (k6 q2)
    · have q3 : l2 = 1 := q9
      refine r_tableIn (off := 44) (tgt := 73) dX5_about_29 (by rw [q3]; decide) (by rw [q3]; decide) (by rw [q3]; rfl) (by decide) ?_
      refine r_aload_n dX5_about_73 rfl ?_
      refine r_getR (c := 5) (k := 5) dX5_about_74 rfl rfl (by decide) fl_RX5_48 (c2) rfl (c7) ?_
      refine r_iconst (v := 0) dX5_about_77 (by decide) ?_
      refine r_iload_n dX5_about_78 rfl ?_
      refine r_callV1 (c := 3) (mc := 0) (ms := 0) dX5_about_79 ck_X3_mateOf iv_X3_mateOf sl_X3_mateOf lk_RX5_104 rfl rfl (c9) (by decide) (by decide) (As := [.int 0, .int l1]) rfl rfl (Nat.le_of_ble_eq_true rfl) (Or.inl rfl) (Or.inl rfl) (e8 q3) ?_
      exact r_ireturn dX5_about_82 rfl (k10 q3)
    · have q4 : l2 = 2 := q9
      refine r_tableIn (off := 54) (tgt := 83) dX5_about_29 (by rw [q4]; decide) (by rw [q4]; decide) (by rw [q4]; rfl) (by decide) ?_
      refine r_aload_n dX5_about_83 rfl ?_
      refine r_getR (c := 5) (k := 6) dX5_about_84 rfl rfl (by decide) fl_RX5_54 (c2) rfl (c3) ?_
      refine r_iload_n dX5_about_87 rfl ?_
      refine r_callV1 (c := 2) (mc := 0) (ms := 0) dX5_about_88 ck_X2_levelOf iv_X2_levelOf sl_X2_levelOf lk_RX5_152 rfl rfl (c5) (by decide) (by decide) (As := [.int l1]) rfl rfl (Nat.le_of_ble_eq_true rfl) (Or.inl rfl) (Or.inl rfl) (e11 q4) ?_
      exact r_ireturn dX5_about_91 rfl (k12 q4)
    · have q5 : l2 = 3 := q9
      refine r_tableIn (off := 63) (tgt := 92) dX5_about_29 (by rw [q5]; decide) (by rw [q5]; decide) (by rw [q5]; rfl) (by decide) ?_
      refine r_aload_n dX5_about_92 rfl ?_
      refine r_getR (c := 5) (k := 6) dX5_about_93 rfl rfl (by decide) fl_RX5_54 (c2) rfl (c3) ?_
      refine r_iload_n dX5_about_96 rfl ?_
      refine r_iconst (v := 3) dX5_about_97 (by decide) ?_
      refine r_isub dX5_about_98 ?_
      refine r_iload_n dX5_about_99 rfl ?_
      refine r_callV1 (c := 2) (mc := 0) (ms := 0) dX5_about_100 ck_X2_isInAntichain iv_X2_isInAntichain sl_X2_isInAntichain lk_RX5_155 rfl rfl (c5) (by decide) (by decide) (As := [.int (l2 - 3), .int l1]) rfl rfl (Nat.le_of_ble_eq_true rfl) (Or.inl rfl) (Or.inl rfl) (e13 q5) ?_
      refine r_if_eq 110 dX5_about_103 (by decide) (fun q6 => ?_) (fun q6 => ?_)
      · refine r_iconst (v := 0) dX5_about_110 (by decide) ?_
        exact r_ireturn dX5_about_111 rfl (k14 q5 q6)
      · refine r_iconst (v := 1) dX5_about_106 (by decide) ?_
        refine r_goto (tgt := 111) dX5_about_107 (by decide) ?_
        exact r_ireturn dX5_about_111 rfl (k15 q5 q6)
    · have q7 : l2 = 4 := q9
      refine r_tableIn (off := 63) (tgt := 92) dX5_about_29 (by rw [q7]; decide) (by rw [q7]; decide) (by rw [q7]; rfl) (by decide) ?_
      refine r_aload_n dX5_about_92 rfl ?_
      refine r_getR (c := 5) (k := 6) dX5_about_93 rfl rfl (by decide) fl_RX5_54 (c2) rfl (c3) ?_
      refine r_iload_n dX5_about_96 rfl ?_
      refine r_iconst (v := 3) dX5_about_97 (by decide) ?_
      refine r_isub dX5_about_98 ?_
      refine r_iload_n dX5_about_99 rfl ?_
      refine r_callV1 (c := 2) (mc := 0) (ms := 0) dX5_about_100 ck_X2_isInAntichain iv_X2_isInAntichain sl_X2_isInAntichain lk_RX5_155 rfl rfl (c5) (by decide) (by decide) (As := [.int (l2 - 3), .int l1]) rfl rfl (Nat.le_of_ble_eq_true rfl) (Or.inl rfl) (Or.inl rfl) (e16 q7) ?_
      refine r_if_eq 110 dX5_about_103 (by decide) (fun q8 => ?_) (fun q8 => ?_)
      · refine r_iconst (v := 0) dX5_about_110 (by decide) ?_
        exact r_ireturn dX5_about_111 rfl (k17 q7 q8)
      · refine r_iconst (v := 1) dX5_about_106 (by decide) ?_
        refine r_goto (tgt := 111) dX5_about_107 (by decide) ?_
        exact r_ireturn dX5_about_111 rfl (k18 q7 q8)

set_option maxRecDepth 20000 in
set_option maxHeartbeats 2000000 in
theorem s_X5_clearGraph_0 {G : GG} {nc ns : Nat} {h : PH} {Z : Option Value → PH → Prop} {l0 : Nat} {x1 : Int32} {x2 : Int32} {P3 : PH → Prop}
    (c1 : hK h l0 = 15)
    (c2 : (hR h l0 0) ≠ 0)
    (e3 : Ev G m_X1_sizeOf [.ref (hR h l0 0), .int 0] h 0 0 (Ret (some (.int x1)) h))
    (c4 : hK h (hR h l0 0) = 11)
    (e5 : Ev G m_X1_sizeOf [.ref (hR h l0 0), .int 1] h 0 0 (Ret (some (.int x2)) h))
    (e6 : Ev G m_X1_clear [.ref (hR h l0 0)] h 0 0 (RV P3))
    (k7 : ∀ (h3 : PH), P3 h3 → hN h3 = (hN h) → hS h3 = (hS h) → RR G nc ns m_X5_clearGraph 25 [some (.ref l0), some (.int (x1 + x2))] [] h3 Z) :
    RR G nc ns m_X5_clearGraph 0 [some (.ref l0), none] [] h Z := by
  refine r_aload_n dX5_clearGraph_0 rfl ?_
  refine r_getR (c := 5) (k := 0) dX5_clearGraph_1 rfl rfl (by decide) fl_RX5_14 (c1) rfl (c2) ?_
  refine r_iconst (v := 0) dX5_clearGraph_4 (by decide) ?_
  refine r_callV1 (c := 1) (mc := 0) (ms := 0) dX5_clearGraph_5 ck_X1_sizeOf iv_X1_sizeOf sl_X1_sizeOf lk_RX5_77 rfl rfl (c4) (by decide) (by decide) (As := [.int 0]) rfl rfl (Nat.le_of_ble_eq_true rfl) (Or.inl rfl) (Or.inl rfl) (e3) ?_
  refine r_aload_n dX5_clearGraph_8 rfl ?_
  refine r_getR (c := 5) (k := 0) dX5_clearGraph_9 rfl rfl (by decide) fl_RX5_14 (c1) rfl (c2) ?_
  refine r_iconst (v := 1) dX5_clearGraph_12 (by decide) ?_
  refine r_callV1 (c := 1) (mc := 0) (ms := 0) dX5_clearGraph_13 ck_X1_sizeOf iv_X1_sizeOf sl_X1_sizeOf lk_RX5_77 rfl rfl (c4) (by decide) (by decide) (As := [.int 1]) rfl rfl (Nat.le_of_ble_eq_true rfl) (Or.inl rfl) (Or.inl rfl) (e5) ?_
  refine r_iadd dX5_clearGraph_16 ?_
  refine r_istore_nL [some (.ref l0), some (.int (x1 + x2))] dX5_clearGraph_17 (by decide) rfl ?_
  refine r_aload_n dX5_clearGraph_18 rfl ?_
  refine r_getR (c := 5) (k := 0) dX5_clearGraph_19 rfl rfl (by decide) fl_RX5_14 (c1) rfl (c2) ?_
  refine r_callV (c := 1) (mc := 0) (ms := 0) dX5_clearGraph_22 ck_X1_clear iv_X1_clear sl_X1_clear lk_RX5_158 rfl rfl (c4) (by decide) (by decide) (As := []) rfl rfl (Nat.le_of_ble_eq_true rfl) (Or.inl rfl) (Or.inl rfl) (e6) ?_
  rintro v3 h3 ⟨rfl, z3⟩ n3 t3
  exact k7 h3 z3 n3 t3

set_option maxRecDepth 20000 in
set_option maxHeartbeats 2000000 in
theorem s_X5_clearGraph_25 {G : GG} {nc ns : Nat} {h : PH} {Z : Option Value → PH → Prop} {l0 : Nat} {l1 : Int32}
    (k1 : Z (some (.int l1)) h) :
    RR G nc ns m_X5_clearGraph 25 [some (.ref l0), some (.int l1)] [] h Z := by
  refine r_iload_n dX5_clearGraph_25 rfl ?_
  exact r_ireturn dX5_clearGraph_26 rfl (k1)

set_option maxRecDepth 20000 in
set_option maxHeartbeats 2000000 in
theorem s_X5_clearThings_0 {G : GG} {nc ns : Nat} {h : PH} {Z : Option Value → PH → Prop} {l0 : Nat} {x1 : Int32} {P2 : PH → Prop}
    (c1 : hK h l0 = 15)
    (c2 : (hR h l0 4) ≠ 0)
    (e3 : Ev G m_X1_sizeOf [.ref (hR h l0 4), .int 0] h 0 0 (Ret (some (.int x1)) h))
    (c4 : hK h (hR h l0 4) = 11)
    (e5 : Ev G m_X1_clear [.ref (hR h l0 4)] h 0 0 (RV P2))
    (k6 : ∀ (h2 : PH), P2 h2 → hN h2 = (hN h) → hS h2 = (hS h) → RR G nc ns m_X5_clearThings 16 [some (.ref l0), some (.int x1)] [] h2 Z) :
    RR G nc ns m_X5_clearThings 0 [some (.ref l0), none] [] h Z := by
  refine r_aload_n dX5_clearThings_0 rfl ?_
  refine r_getR (c := 5) (k := 4) dX5_clearThings_1 rfl rfl (by decide) fl_RX5_45 (c1) rfl (c2) ?_
  refine r_iconst (v := 0) dX5_clearThings_4 (by decide) ?_
  refine r_callV1 (c := 1) (mc := 0) (ms := 0) dX5_clearThings_5 ck_X1_sizeOf iv_X1_sizeOf sl_X1_sizeOf lk_RX5_77 rfl rfl (c4) (by decide) (by decide) (As := [.int 0]) rfl rfl (Nat.le_of_ble_eq_true rfl) (Or.inl rfl) (Or.inl rfl) (e3) ?_
  refine r_istore_nL [some (.ref l0), some (.int x1)] dX5_clearThings_8 (by decide) rfl ?_
  refine r_aload_n dX5_clearThings_9 rfl ?_
  refine r_getR (c := 5) (k := 4) dX5_clearThings_10 rfl rfl (by decide) fl_RX5_45 (c1) rfl (c2) ?_
  refine r_callV (c := 1) (mc := 0) (ms := 0) dX5_clearThings_13 ck_X1_clear iv_X1_clear sl_X1_clear lk_RX5_158 rfl rfl (c4) (by decide) (by decide) (As := []) rfl rfl (Nat.le_of_ble_eq_true rfl) (Or.inl rfl) (Or.inl rfl) (e5) ?_
  rintro v2 h2 ⟨rfl, z2⟩ n2 t2
  exact k6 h2 z2 n2 t2

set_option maxRecDepth 20000 in
set_option maxHeartbeats 2000000 in
theorem s_X5_clearThings_16 {G : GG} {nc ns : Nat} {h : PH} {Z : Option Value → PH → Prop} {l0 : Nat} {l1 : Int32}
    (k1 : Z (some (.int l1)) h) :
    RR G nc ns m_X5_clearThings 16 [some (.ref l0), some (.int l1)] [] h Z := by
  refine r_iload_n dX5_clearThings_16 rfl ?_
  exact r_ireturn dX5_clearThings_17 rfl (k1)
