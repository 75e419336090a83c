set_option maxRecDepth 20000 in
set_option maxHeartbeats 2000000 in
theorem s_X3_init_0 {G : GG} {nc ns : Nat} {h : PH} {Z : Option Value → PH → Prop} {l0 : Nat} {l1 : Nat}
    (c1 : hK h l0 = 13)
    (c2 : l1 ≠ 0)
    (k3 : RR G nc ns m_X3_init 9 [some (.ref l0), some (.ref l1)] [] (sR h l0 0 l1) Z) :
    RR G nc ns m_X3_init 0 [some (.ref l0), some (.ref l1)] [] h Z := by
  refine r_aload_n dX3_init_0 rfl ?_
  refine r_objInit dX3_init_1 lk_RX3_3 iv_obj cd_obj (by decide) (by decide) (Nat.le_of_ble_eq_true rfl) ?_
  refine r_aload_n dX3_init_4 rfl ?_
  refine r_aload_n dX3_init_5 rfl ?_
  refine r_putR (c := 3) (k := 0) dX3_init_6 rfl rfl (by decide) fl_RX3_9 (c1) (Or.inr ⟨rfl, rfl, rfl⟩) rfl (c2) ?_
  exact k3

set_option maxRecDepth 20000 in
set_option maxHeartbeats 2000000 in
theorem s_X3_init_9 {G : GG} {nc ns : Nat} {h : PH} {Z : Option Value → PH → Prop} {l0 : Nat} {l1 : Nat} {x1 : Int32} {n2 : Nat}
    (e1 : Ev G m_X1_most [.ref l1] h 0 0 (Ret (some (.int x1)) h))
    (c2 : hK h l1 = 11)
    (c3 : ¬ x1 < 0)
    (c4 : Int32.toNatClampNeg x1 = n2)
    (c5 : n2 ≤ 1000)
    (c6 : (hN h) + (1 + 2) ≤ nc)
    (c7 : (hS h) + (2 + 2 * n2) ≤ ns)
    (c8 : hK (nM h 5 2 2 n2) l0 = 13)
    (c9 : (hN h) ≠ 0)
    (k10 : RR G nc ns m_X3_init 22 [some (.ref l0), some (.ref l1)] [] (sR (nM h 5 2 2 n2) l0 1 (hN h)) Z) :
    RR G nc ns m_X3_init 9 [some (.ref l0), some (.ref l1)] [] h Z := by
  refine r_aload_n dX3_init_9 rfl ?_
  refine r_iconst (v := 2) dX3_init_10 (by decide) ?_
  refine r_aload_n dX3_init_11 rfl ?_
  refine r_callV1 (c := 1) (mc := 0) (ms := 0) dX3_init_12 ck_X1_most iv_X1_most sl_X1_most lk_RX3_15 rfl rfl (c2) (by decide) (by decide) (As := []) rfl rfl (Nat.le_of_ble_eq_true rfl) (Or.inl rfl) (Or.inl rfl) (e1) ?_
  refine r_multi_int (N := 2) (K := n2) dX3_init_15 cl_RX3_21 (by decide) (by decide) (by decide) (c3) (c4) (c5) (c6) (c7) ?_
  refine r_putR (c := 3) (k := 1) dX3_init_19 rfl rfl (by decide) fl_RX3_23 (c8) (Or.inr ⟨rfl, rfl, rfl⟩) rfl (c9) ?_
  exact k10

set_option maxRecDepth 20000 in
set_option maxHeartbeats 2000000 in
theorem s_X3_init_22 {G : GG} {nc ns : Nat} {h : PH} {Z : Option Value → PH → Prop} {l0 : Nat} {l1 : Nat}
    (c1 : (hN h) + 1 ≤ nc)
    (c2 : (hS h) + 2 ≤ ns)
    (c3 : hK (nA h 3 2) l0 = 13)
    (c4 : (hN h) ≠ 0)
    (k5 : RR G nc ns m_X3_init 29 [some (.ref l0), some (.ref l1)] [] (sR (nA h 3 2) l0 2 (hN h)) Z) :
    RR G nc ns m_X3_init 22 [some (.ref l0), some (.ref l1)] [] h Z := by
  refine r_aload_n dX3_init_22 rfl ?_
  refine r_iconst (v := 2) dX3_init_23 (by decide) ?_
  refine r_newarray (kd := 3) (N := 2) dX3_init_24 rfl rfl rfl ac_long (by decide) (by decide) (by decide) (c1) (c2) ?_
  refine r_putR (c := 3) (k := 2) dX3_init_26 rfl rfl (by decide) fl_RX3_26 (c3) (Or.inr ⟨rfl, rfl, rfl⟩) rfl (c4) ?_
  exact k5

set_option maxRecDepth 20000 in
set_option maxHeartbeats 2000000 in
theorem s_X3_init_29 {G : GG} {nc ns : Nat} {h : PH} {Z : Option Value → PH → Prop} {l0 : Nat} {l1 : Nat}
    (c1 : (hN h) + 1 ≤ nc)
    (c2 : (hS h) + 2 ≤ ns)
    (c3 : hK (nA h 3 2) l0 = 13)
    (c4 : (hN h) ≠ 0)
    (k5 : RR G nc ns m_X3_init 36 [some (.ref l0), some (.ref l1)] [] (sR (nA h 3 2) l0 3 (hN h)) Z) :
    RR G nc ns m_X3_init 29 [some (.ref l0), some (.ref l1)] [] h Z := by
  refine r_aload_n dX3_init_29 rfl ?_
  refine r_iconst (v := 2) dX3_init_30 (by decide) ?_
  refine r_newarray (kd := 3) (N := 2) dX3_init_31 rfl rfl rfl ac_long (by decide) (by decide) (by decide) (c1) (c2) ?_
  refine r_putR (c := 3) (k := 3) dX3_init_33 rfl rfl (by decide) fl_RX3_30 (c3) (Or.inr ⟨rfl, rfl, rfl⟩) rfl (c4) ?_
  exact k5

set_option maxRecDepth 20000 in
set_option maxHeartbeats 2000000 in
theorem s_X3_init_36 {G : GG} {nc ns : Nat} {h : PH} {Z : Option Value → PH → Prop} {l0 : Nat} {l1 : Nat}
    (c1 : (hN h) + (1 + 2) ≤ nc)
    (c2 : (hS h) + (2 + 2 * 3) ≤ ns)
    (c3 : hK (nM h 6 3 2 3) l0 = 13)
    (c4 : (hN h) ≠ 0)
    (k5 : RR G nc ns m_X3_init 46 [some (.ref l0), some (.ref l1)] [] (sR (nM h 6 3 2 3) l0 4 (hN h)) Z) :
    RR G nc ns m_X3_init 36 [some (.ref l0), some (.ref l1)] [] h Z := by
  refine r_aload_n dX3_init_36 rfl ?_
  refine r_iconst (v := 2) dX3_init_37 (by decide) ?_
  refine r_iconst (v := 3) dX3_init_38 (by decide) ?_
  refine r_multi_long (N := 2) (K := 3) dX3_init_39 cl_RX3_33 (by decide) (by decide) (by decide) (by decide) (by decide) (by decide) (c1) (c2) ?_
  refine r_putR (c := 3) (k := 4) dX3_init_43 rfl rfl (by decide) fl_RX3_35 (c3) (Or.inr ⟨rfl, rfl, rfl⟩) rfl (c4) ?_
  exact k5

set_option maxRecDepth 20000 in
set_option maxHeartbeats 2000000 in
theorem s_X3_init_46 {G : GG} {nc ns : Nat} {h : PH} {Z : Option Value → PH → Prop} {l0 : Nat} {l1 : Nat} {x1 : Int32} {n2 : Nat}
    (e1 : Ev G m_X1_most [.ref l1] h 0 0 (Ret (some (.int x1)) h))
    (c2 : hK h l1 = 11)
    (c3 : ¬ x1 < 0)
    (c4 : Int32.toNatClampNeg x1 = n2)
    (c5 : n2 * 8 ≤ 536870912)
    (c6 : (hN h) + 1 ≤ nc)
    (c7 : (hS h) + n2 ≤ ns)
    (c8 : hK (nA h 2 n2) l0 = 13)
    (c9 : (hN h) ≠ 0)
    (k10 : RR G nc ns m_X3_init 56 [some (.ref l0), some (.ref l1)] [] (sR (nA h 2 n2) l0 5 (hN h)) Z) :
    RR G nc ns m_X3_init 46 [some (.ref l0), some (.ref l1)] [] h Z := by
  refine r_aload_n dX3_init_46 rfl ?_
  refine r_aload_n dX3_init_47 rfl ?_
  refine r_callV1 (c := 1) (mc := 0) (ms := 0) dX3_init_48 ck_X1_most iv_X1_most sl_X1_most lk_RX3_15 rfl rfl (c2) (by decide) (by decide) (As := []) rfl rfl (Nat.le_of_ble_eq_true rfl) (Or.inl rfl) (Or.inl rfl) (e1) ?_
  refine r_newarray (kd := 2) (N := n2) dX3_init_51 rfl rfl rfl ac_int (c3) (c4) (nb_int (c5)) (c6) (c7) ?_
  refine r_putR (c := 3) (k := 5) dX3_init_53 rfl rfl (by decide) fl_RX3_38 (c8) (Or.inr ⟨rfl, rfl, rfl⟩) rfl (c9) ?_
  exact k10

set_option maxRecDepth 20000 in
set_option maxHeartbeats 2000000 in
theorem s_X3_init_56 {G : GG} {nc ns : Nat} {h : PH} {Z : Option Value → PH → Prop} {l0 : Nat} {l1 : Nat} {x1 : Int32} {n2 : Nat}
    (e1 : Ev G m_X1_most [.ref l1] h 0 0 (Ret (some (.int x1)) h))
    (c2 : hK h l1 = 11)
    (c3 : ¬ x1 < 0)
    (c4 : Int32.toNatClampNeg x1 = n2)
    (c5 : n2 * 8 ≤ 536870912)
    (c6 : (hN h) + 1 ≤ nc)
    (c7 : (hS h) + n2 ≤ ns)
    (c8 : hK (nA h 2 n2) l0 = 13)
    (c9 : (hN h) ≠ 0)
    (k10 : RR G nc ns m_X3_init 66 [some (.ref l0), some (.ref l1)] [] (sR (nA h 2 n2) l0 6 (hN h)) Z) :
    RR G nc ns m_X3_init 56 [some (.ref l0), some (.ref l1)] [] h Z := by
  refine r_aload_n dX3_init_56 rfl ?_
  refine r_aload_n dX3_init_57 rfl ?_
  refine r_callV1 (c := 1) (mc := 0) (ms := 0) dX3_init_58 ck_X1_most iv_X1_most sl_X1_most lk_RX3_15 rfl rfl (c2) (by decide) (by decide) (As := []) rfl rfl (Nat.le_of_ble_eq_true rfl) (Or.inl rfl) (Or.inl rfl) (e1) ?_
  refine r_newarray (kd := 2) (N := n2) dX3_init_61 rfl rfl rfl ac_int (c3) (c4) (nb_int (c5)) (c6) (c7) ?_
  refine r_putR (c := 3) (k := 6) dX3_init_63 rfl rfl (by decide) fl_RX3_42 (c8) (Or.inr ⟨rfl, rfl, rfl⟩) rfl (c9) ?_
  exact k10

set_option maxRecDepth 20000 in
set_option maxHeartbeats 2000000 in
theorem s_X3_init_66 {G : GG} {nc ns : Nat} {h : PH} {Z : Option Value → PH → Prop} {l0 : Nat} {l1 : Nat}
    (c1 : hK h l0 = 13)
    (k2 : RR G nc ns m_X3_init 71 [some (.ref l0), some (.ref l1)] [] (sI h l0 7 0) Z) :
    RR G nc ns m_X3_init 66 [some (.ref l0), some (.ref l1)] [] h Z := by
  refine r_aload_n dX3_init_66 rfl ?_
  refine r_iconst (v := 0) dX3_init_67 (by decide) ?_
  refine r_putI (c := 3) (k := 7) dX3_init_68 rfl rfl (by decide) fl_RX3_45 (c1) (Or.inl rfl) (Or.inl rfl) ?_
  exact k2

set_option maxRecDepth 20000 in
set_option maxHeartbeats 2000000 in
theorem s_X3_init_71 {G : GG} {nc ns : Nat} {h : PH} {Z : Option Value → PH → Prop} {l0 : Nat} {l1 : Nat}
    (c1 : hK h l0 = 13)
    (k2 : RR G nc ns m_X3_init 76 [some (.ref l0), some (.ref l1)] [] (sI h l0 8 (-1)) Z) :
    RR G nc ns m_X3_init 71 [some (.ref l0), some (.ref l1)] [] h Z := by
  refine r_aload_n dX3_init_71 rfl ?_
  refine r_iconst (v := (-1)) dX3_init_72 (by decide) ?_
  refine r_putI (c := 3) (k := 8) dX3_init_73 rfl rfl (by decide) fl_RX3_49 (c1) (Or.inl rfl) (Or.inl rfl) ?_
  exact k2

set_option maxRecDepth 20000 in
set_option maxHeartbeats 2000000 in
theorem s_X3_init_76 {G : GG} {nc ns : Nat} {h : PH} {Z : Option Value → PH → Prop} {l0 : Nat} {l1 : Nat}
    (k1 : Z none h) :
    RR G nc ns m_X3_init 76 [some (.ref l0), some (.ref l1)] [] h Z := by
  exact r_return dX3_init_76 rfl (k1)

set_option maxRecDepth 20000 in
set_option maxHeartbeats 2000000 in
theorem s_X3_refresh_0 {G : GG} {nc ns : Nat} {h : PH} {Z : Option Value → PH → Prop} {l0 : Nat} {x1 : Int32} {x2 : Int32} {P3 : PH → Prop}
    (c1 : hK h l0 = 13)
    (c2 : (hR h l0 0) ≠ 0)
    (e3 : Ev G m_X1_changes [.ref (hR h l0 0)] h 0 0 (Ret (some (.int x1)) h))
    (c4 : hK h (hR h l0 0) = 11)
    (e5 : (¬ (hI h l0 8) = x1) → Ev G m_X1_changes [.ref (hR h l0 0)] h 0 0 (Ret (some (.int x2)) h))
    (e6 : (¬ (hI h l0 8) = x1) → Ev G m_X3_begin [.ref l0] (sI h l0 8 x2) 0 0 (RV P3))
    (k7 : (¬ (hI h l0 8) = x1) → ∀ (h3 : PH), P3 h3 → hN h3 = (hN h) → hS h3 = (hS h) → RR G nc ns m_X3_refresh 30 [some (.ref l0), none] [] h3 Z)
    (k8 : ((hI h l0 8) = x1) → Z none h) :
    RR G nc ns m_X3_refresh 0 [some (.ref l0), none] [] h Z := by
  refine r_aload_n dX3_refresh_0 rfl ?_
  refine r_get (c := 3) (k := 8) dX3_refresh_1 rfl rfl (by decide) fl_RX3_49 (c1) rfl ?_
  refine r_aload_n dX3_refresh_4 rfl ?_
  refine r_getR (c := 3) (k := 0) dX3_refresh_5 rfl rfl (by decide) fl_RX3_9 (c1) rfl (c2) ?_
  refine r_callV1 (c := 1) (mc := 0) (ms := 0) dX3_refresh_8 ck_X1_changes iv_X1_changes sl_X1_changes lk_RX3_52 rfl rfl (c4) (by decide) (by decide) (As := []) rfl rfl (Nat.le_of_ble_eq_true rfl) (Or.inl rfl) (Or.inl rfl) (e3) ?_
  refine r_icmp_ne 15 dX3_refresh_11 (by decide) (fun q1 => ?_) (fun q1 => ?_)
  · refine r_aload_n dX3_refresh_15 rfl ?_
    refine r_aload_n dX3_refresh_16 rfl ?_
    refine r_getR (c := 3) (k := 0) dX3_refresh_17 rfl rfl (by decide) fl_RX3_9 (c1) rfl (c2) ?_
    refine r_callV1 (c := 1) (mc := 0) (ms := 0) dX3_refresh_20 ck_X1_changes iv_X1_changes sl_X1_changes lk_RX3_52 rfl rfl (c4) (by decide) (by decide) (As := []) rfl rfl (Nat.le_of_ble_eq_true rfl) (Or.inl rfl) (Or.inl rfl) (e5 q1) ?_
    refine r_putI (c := 3) (k := 8) dX3_refresh_23 rfl rfl (by decide) fl_RX3_49 (c1) (Or.inl rfl) (Or.inl rfl) ?_
    refine r_aload_n dX3_refresh_26 rfl ?_
    refine r_callV (c := 3) (mc := 0) (ms := 0) dX3_refresh_27 ck_X3_begin iv_X3_begin sl_X3_begin lk_RX3_55 rfl rfl (c1) (by decide) (by decide) (As := []) rfl rfl (Nat.le_of_ble_eq_true rfl) (Or.inl rfl) (Or.inl rfl) (e6 q1) ?_
    rintro v3 h3 ⟨rfl, z3⟩ n3 t3
    exact k7 q1 h3 z3 n3 t3
  · exact r_return dX3_refresh_14 rfl (k8 q1)

set_option maxRecDepth 20000 in
set_option maxHeartbeats 2000000 in
theorem s_X3_refresh_30 {G : GG} {nc ns : Nat} {h : PH} {Z : Option Value → PH → Prop} {l0 : Nat}
    (k1 : RR G nc ns m_X3_refresh 32 [some (.ref l0), some (.int 0)] [] h Z) :
    RR G nc ns m_X3_refresh 30 [some (.ref l0), none] [] h Z := by
  refine r_iconst (v := 0) dX3_refresh_30 (by decide) ?_
  refine r_istore_nL [some (.ref l0), some (.int 0)] dX3_refresh_31 (by decide) rfl ?_
  exact k1

set_option maxRecDepth 20000 in
set_option maxHeartbeats 2000000 in
theorem s_X3_refresh_32 {G : GG} {nc ns : Nat} {h : PH} {Z : Option Value → PH → Prop} {l0 : Nat} {l1 : Int32} {x1 : Int32} {P2 : Int32 → PH → Prop}
    (c1 : hK h l0 = 13)
    (c2 : (hR h l0 0) ≠ 0)
    (e3 : Ev G m_X1_most [.ref (hR h l0 0)] h 0 0 (Ret (some (.int x1)) h))
    (c4 : hK h (hR h l0 0) = 11)
    (k5 : (x1 ≤ l1) → RR G nc ns m_X3_refresh 68 [some (.ref l0), some (.int 0)] [] h Z)
    (e6 : (¬ x1 ≤ l1) → Ev G m_X3_lengthen [.ref l0] h 0 0 (RI P2))
    (k7 : (¬ x1 ≤ l1) → ∀ (x2 : Int32) (h2 : PH), P2 x2 h2 → hN h2 = (hN h) → hS h2 = (hS h) → RR G nc ns m_X3_refresh 47 [some (.ref l0), some (.int l1)] [.int x2] h2 Z) :
    RR G nc ns m_X3_refresh 32 [some (.ref l0), some (.int l1)] [] h Z := by
  refine r_iload_n dX3_refresh_32 rfl ?_
  refine r_aload_n dX3_refresh_33 rfl ?_
  refine r_getR (c := 3) (k := 0) dX3_refresh_34 rfl rfl (by decide) fl_RX3_9 (c1) rfl (c2) ?_
  refine r_callV1 (c := 1) (mc := 0) (ms := 0) dX3_refresh_37 ck_X1_most iv_X1_most sl_X1_most lk_RX3_15 rfl rfl (c4) (by decide) (by decide) (As := []) rfl rfl (Nat.le_of_ble_eq_true rfl) (Or.inl rfl) (Or.inl rfl) (e3) ?_
  refine r_icmp_ge 66 dX3_refresh_40 (by decide) (fun q1 => ?_) (fun q1 => ?_)
  · refine r_iconst (v := 0) dX3_refresh_66 (by decide) ?_
    refine r_istore_nL [some (.ref l0), some (.int 0)] dX3_refresh_67 (by decide) rfl ?_
    exact k5 q1
  · refine r_aload_n dX3_refresh_43 rfl ?_
    refine r_callV (c := 3) (mc := 0) (ms := 0) dX3_refresh_44 ck_X3_lengthen iv_X3_lengthen sl_X3_lengthen lk_RX3_58 rfl rfl (c1) (by decide) (by decide) (As := []) rfl rfl (Nat.le_of_ble_eq_true rfl) (Or.inl rfl) (Or.inl rfl) (e6 q1) ?_
    rintro v2 h2 ⟨x2, rfl, z2⟩ n2 t2
    exact k7 q1 x2 h2 z2 n2 t2

set_option maxRecDepth 20000 in
set_option maxHeartbeats 2000000 in
theorem s_X3_refresh_47 {G : GG} {nc ns : Nat} {h : PH} {Z : Option Value → PH → Prop} {l0 : Nat} {l1 : Int32} {s0 : Int32}
    (k1 : (s0 = 0) → RR G nc ns m_X3_refresh 68 [some (.ref l0), some (.int 0)] [] h Z)
    (c2 : hK h l0 = 13)
    (k3 : (¬ s0 = 0) → RR G nc ns m_X3_refresh 32 [some (.ref l0), some (.int (l1 + 1))] [] (sI h l0 7 ((hI h l0 7) + 1)) Z) :
    RR G nc ns m_X3_refresh 47 [some (.ref l0), some (.int l1)] [.int s0] h Z := by
  refine r_if_eq 66 dX3_refresh_47 (by decide) (fun q1 => ?_) (fun q1 => ?_)
  · refine r_iconst (v := 0) dX3_refresh_66 (by decide) ?_
    refine r_istore_nL [some (.ref l0), some (.int 0)] dX3_refresh_67 (by decide) rfl ?_
    exact k1 q1
  · refine r_aload_n dX3_refresh_50 rfl ?_
    refine r_dup dX3_refresh_51 rfl ?_
    refine r_get (c := 3) (k := 7) dX3_refresh_52 rfl rfl (by decide) fl_RX3_45 (c2) rfl ?_
    refine r_iconst (v := 1) dX3_refresh_55 (by decide) ?_
    refine r_iadd dX3_refresh_56 ?_
    refine r_putI (c := 3) (k := 7) dX3_refresh_57 rfl rfl (by decide) fl_RX3_45 (c2) (Or.inl rfl) (Or.inl rfl) ?_
    refine r_iincL (v := l1 + 1) [some (.ref l0), some (.int (l1 + 1))] dX3_refresh_60 rfl (by decide) rfl rfl ?_
    refine r_goto (tgt := 32) dX3_refresh_63 (by decide) ?_
    exact k3 q1

set_option maxRecDepth 20000 in
set_option maxHeartbeats 2000000 in
theorem s_X3_refresh_68 {G : GG} {nc ns : Nat} {h : PH} {Z : Option Value → PH → Prop} {l0 : Nat} {l1 : Int32} {x1 : Int32} {P2 : PH → Prop} {x3 : Int64} {P4 : PH → Prop}
    (c1 : hK h l0 = 13)
    (c2 : (hR h l0 0) ≠ 0)
    (e3 : Ev G m_X1_sizeOf [.ref (hR h l0 0), .int 0] h 0 0 (Ret (some (.int x1)) h))
    (c4 : hK h (hR h l0 0) = 11)
    (e5 : (x1 ≤ l1) → Ev G m_X3_openAll [.ref l0] h 0 0 (RV P2))
    (k6 : (x1 ≤ l1) → ∀ (h2 : PH), P2 h2 → hN h2 = (hN h) → hS h2 = (hS h) → RR G nc ns m_X3_refresh 100 [some (.ref l0), some (.int l1)] [] h2 Z)
    (e7 : (¬ x1 ≤ l1) → Ev G m_X3_choicesOf [.ref l0, .int l1] h 0 0 (Ret (some (.long x3)) h))
    (e8 : (¬ x1 ≤ l1) → Ev G m_X3_settle [.ref l0, .int l1, .long x3] h 0 0 (RV P4))
    (k9 : (¬ x1 ≤ l1) → ∀ (h4 : PH), P4 h4 → hN h4 = (hN h) → hS h4 = (hS h) → RR G nc ns m_X3_refresh 90 [some (.ref l0), some (.int l1)] [] h4 Z) :
    RR G nc ns m_X3_refresh 68 [some (.ref l0), some (.int l1)] [] h Z := by
  refine r_iload_n dX3_refresh_68 rfl ?_
  refine r_aload_n dX3_refresh_69 rfl ?_
  refine r_getR (c := 3) (k := 0) dX3_refresh_70 rfl rfl (by decide) fl_RX3_9 (c1) rfl (c2) ?_
  refine r_iconst (v := 0) dX3_refresh_73 (by decide) ?_
  refine r_callV1 (c := 1) (mc := 0) (ms := 0) dX3_refresh_74 ck_X1_sizeOf iv_X1_sizeOf sl_X1_sizeOf lk_RX3_62 rfl rfl (c4) (by decide) (by decide) (As := [.int 0]) rfl rfl (Nat.le_of_ble_eq_true rfl) (Or.inl rfl) (Or.inl rfl) (e3) ?_
  refine r_icmp_ge 96 dX3_refresh_77 (by decide) (fun q1 => ?_) (fun q1 => ?_)
  · refine r_aload_n dX3_refresh_96 rfl ?_
    refine r_callV (c := 3) (mc := 0) (ms := 0) dX3_refresh_97 ck_X3_openAll iv_X3_openAll sl_X3_openAll lk_RX3_74 rfl rfl (c1) (by decide) (by decide) (As := []) rfl rfl (Nat.le_of_ble_eq_true rfl) (Or.inl rfl) (Or.inl rfl) (e5 q1) ?_
    rintro v2 h2 ⟨rfl, z2⟩ n2 t2
    exact k6 q1 h2 z2 n2 t2
  · refine r_aload_n dX3_refresh_80 rfl ?_
    refine r_iload_n dX3_refresh_81 rfl ?_
    refine r_aload_n dX3_refresh_82 rfl ?_
    refine r_iload_n dX3_refresh_83 rfl ?_
    refine r_callV1 (c := 3) (mc := 0) (ms := 0) dX3_refresh_84 ck_X3_choicesOf iv_X3_choicesOf sl_X3_choicesOf lk_RX3_66 rfl rfl (c1) (by decide) (by decide) (As := [.int l1]) rfl rfl (Nat.le_of_ble_eq_true rfl) (Or.inl rfl) (Or.inl rfl) (e7 q1) ?_
    refine r_callV (c := 3) (mc := 0) (ms := 0) dX3_refresh_87 ck_X3_settle iv_X3_settle sl_X3_settle lk_RX3_70 rfl rfl (c1) (by decide) (by decide) (As := [.int l1, .long x3]) rfl rfl (Nat.le_of_ble_eq_true rfl) (Or.inl rfl) (Or.inl rfl) (e8 q1) ?_
    rintro v4 h4 ⟨rfl, z4⟩ n4 t4
    exact k9 q1 h4 z4 n4 t4

set_option maxRecDepth 20000 in
set_option maxHeartbeats 2000000 in
theorem s_X3_refresh_90 {G : GG} {nc ns : Nat} {h : PH} {Z : Option Value → PH → Prop} {l0 : Nat} {l1 : Int32}
    (k1 : RR G nc ns m_X3_refresh 68 [some (.ref l0), some (.int (l1 + 1))] [] h Z) :
    RR G nc ns m_X3_refresh 90 [some (.ref l0), some (.int l1)] [] h Z := by
  refine r_iincL (v := l1 + 1) [some (.ref l0), some (.int (l1 + 1))] dX3_refresh_90 rfl (by decide) rfl rfl ?_
  refine r_goto (tgt := 68) dX3_refresh_93 (by decide) ?_
  exact k1

set_option maxRecDepth 20000 in
set_option maxHeartbeats 2000000 in
theorem s_X3_refresh_100 {G : GG} {nc ns : Nat} {h : PH} {Z : Option Value → PH → Prop} {l0 : Nat} {l1 : Int32} {P1 : PH → Prop}
    (e1 : Ev G m_X3_findParts [.ref l0] h 0 0 (RV P1))
    (c2 : hK h l0 = 13)
    (k3 : ∀ (h1 : PH), P1 h1 → hN h1 = (hN h) → hS h1 = (hS h) → RR G nc ns m_X3_refresh 104 [some (.ref l0), some (.int l1)] [] h1 Z) :
    RR G nc ns m_X3_refresh 100 [some (.ref l0), some (.int l1)] [] h Z := by
  refine r_aload_n dX3_refresh_100 rfl ?_
  refine r_callV (c := 3) (mc := 0) (ms := 0) dX3_refresh_101 ck_X3_findParts iv_X3_findParts sl_X3_findParts lk_RX3_77 rfl rfl (c2) (by decide) (by decide) (As := []) rfl rfl (Nat.le_of_ble_eq_true rfl) (Or.inl rfl) (Or.inl rfl) (e1) ?_
  rintro v1 h1 ⟨rfl, z1⟩ n1 t1
  exact k3 h1 z1 n1 t1

set_option maxRecDepth 20000 in
set_option maxHeartbeats 2000000 in
theorem s_X3_refresh_104 {G : GG} {nc ns : Nat} {h : PH} {Z : Option Value → PH → Prop} {l0 : Nat} {l1 : Int32}
    (k1 : Z none h) :
    RR G nc ns m_X3_refresh 104 [some (.ref l0), some (.int l1)] [] h Z := by
  exact r_return dX3_refresh_104 rfl (k1)

set_option maxRecDepth 20000 in
set_option maxHeartbeats 2000000 in
theorem s_X3_pairs_0 {G : GG} {nc ns : Nat} {h : PH} {Z : Option Value → PH → Prop} {l0 : Nat}
    (c1 : hK h l0 = 13)
    (k2 : Z (some (.int (hI h l0 7))) h) :
    RR G nc ns m_X3_pairs 0 [some (.ref l0)] [] h Z := by
  refine r_aload_n dX3_pairs_0 rfl ?_
  refine r_get (c := 3) (k := 7) dX3_pairs_1 rfl rfl (by decide) fl_RX3_45 (c1) rfl ?_
  exact r_ireturn dX3_pairs_4 rfl (k2)

set_option maxRecDepth 20000 in
set_option maxHeartbeats 2000000 in
theorem s_X3_mateOf_0 {G : GG} {nc ns : Nat} {h : PH} {Z : Option Value → PH → Prop} {l0 : Nat} {l1 : Int32} {l2 : Int32} {x1 : Int32}
    (c1 : hK h l0 = 13)
    (c2 : (hR h l0 0) ≠ 0)
    (e3 : Ev G m_X1_holds [.ref (hR h l0 0), .int l1, .int l2] h 0 0 (Ret (some (.int x1)) h))
    (c4 : hK h (hR h l0 0) = 11)
    (k5 : (x1 = 0) → Z (some (.int (-3))) h)
    (c6 : (hR h l0 1) ≠ 0)
    (c7 : (hK h (hR h l0 1) = 5 ∨ hK h (hR h l0 1) = 6))
    (c8 : (¬ x1 = 0) → vp_in l1 (hL h (hR h l0 1)))
    (c9 : (¬ x1 = 0) → (hR h (hR h l0 1) (Int32.toNatClampNeg l1)) ≠ 0)
    (c10 : (¬ x1 = 0) → hK h (hR h (hR h l0 1) (Int32.toNatClampNeg l1)) = 2)
    (c11 : (¬ x1 = 0) → vp_in l2 (hL h (hR h (hR h l0 1) (Int32.toNatClampNeg l1))))
    (k12 : (¬ x1 = 0) → Z (some (.int (hI h (hR h (hR h l0 1) (Int32.toNatClampNeg l1)) (Int32.toNatClampNeg l2)))) h) :
    RR G nc ns m_X3_mateOf 0 [some (.ref l0), some (.int l1), some (.int l2)] [] h Z := by
  refine r_aload_n dX3_mateOf_0 rfl ?_
  refine r_getR (c := 3) (k := 0) dX3_mateOf_1 rfl rfl (by decide) fl_RX3_9 (c1) rfl (c2) ?_
  refine r_iload_n dX3_mateOf_4 rfl ?_
  refine r_iload_n dX3_mateOf_5 rfl ?_
  refine r_callV1 (c := 1) (mc := 0) (ms := 0) dX3_mateOf_6 ck_X1_holds iv_X1_holds sl_X1_holds lk_RX3_80 rfl rfl (c4) (by decide) (by decide) (As := [.int l1, .int l2]) rfl rfl (Nat.le_of_ble_eq_true rfl) (Or.inl rfl) (Or.inl rfl) (e3) ?_
  refine r_if_eq 23 dX3_mateOf_9 (by decide) (fun q1 => ?_) (fun q1 => ?_)
  · refine r_bipush (v := (-3)) dX3_mateOf_23 (by decide) ?_
    exact r_ireturn dX3_mateOf_25 rfl (k5 q1)
  · refine r_aload_n dX3_mateOf_12 rfl ?_
    refine r_getR (c := 3) (k := 1) dX3_mateOf_13 rfl rfl (by decide) fl_RX3_23 (c1) rfl (c6) ?_
    refine r_iload_n dX3_mateOf_16 rfl ?_
    refine r_aaloadJ (Int32.toNatClampNeg l1) dX3_mateOf_17 (c7) (c8 q1) rfl (c9 q1) ?_
    refine r_iload_n dX3_mateOf_18 rfl ?_
    refine r_ialoadJ (Int32.toNatClampNeg l2) dX3_mateOf_19 (c10 q1) (c11 q1) rfl ?_
    refine r_goto (tgt := 25) dX3_mateOf_20 (by decide) ?_
    exact r_ireturn dX3_mateOf_25 rfl (k12 q1)

set_option maxRecDepth 20000 in
set_option maxHeartbeats 2000000 in
theorem s_X3_matesOf_0 {G : GG} {nc ns : Nat} {h : PH} {Z : Option Value → PH → Prop} {l0 : Nat} {l1 : Int32} {l2 : Int64} {x1 : Int64} {x2 : Int32}
    (c1 : hK h l0 = 13)
    (c2 : (hR h l0 0) ≠ 0)
    (e3 : Ev G m_X1_all [.ref (hR h l0 0), .int l1] h 0 0 (Ret (some (.long x1)) h))
    (c4 : hK h (hR h l0 0) = 11)
    (e5 : Ev G m_J13_bitCount_95d88 [.long (l2 &&& x1)] h 0 0 (Ret (some (.int x2)) h))
    (k6 : RR G nc ns m_X3_matesOf 22 [some (.ref l0), some (.int l1), some (.long l2), none, some (.long 0), none, some (.long (l2 &&& x1)), none, some (.int x2), none] [] h Z) :
    RR G nc ns m_X3_matesOf 0 [some (.ref l0), some (.int l1), some (.long l2), none, none, none, none, none, none, none] [] h Z := by
  refine r_lconst (v := 0) dX3_matesOf_0 (by decide) ?_
  refine r_lstoreL [some (.ref l0), some (.int l1), some (.long l2), none, some (.long 0), none, none, none, none, none] dX3_matesOf_1 (by decide) rfl ?_
  refine r_lload_n dX3_matesOf_3 rfl ?_
  refine r_aload_n dX3_matesOf_4 rfl ?_
  refine r_getR (c := 3) (k := 0) dX3_matesOf_5 rfl rfl (by decide) fl_RX3_9 (c1) rfl (c2) ?_
  refine r_iload_n dX3_matesOf_8 rfl ?_
  refine r_callV1 (c := 1) (mc := 0) (ms := 0) dX3_matesOf_9 ck_X1_all iv_X1_all sl_X1_all lk_RX3_84 rfl rfl (c4) (by decide) (by decide) (As := [.int l1]) rfl rfl (Nat.le_of_ble_eq_true rfl) (Or.inl rfl) (Or.inl rfl) (e3) ?_
  refine r_land dX3_matesOf_12 ?_
  refine r_lstoreL [some (.ref l0), some (.int l1), some (.long l2), none, some (.long 0), none, some (.long (l2 &&& x1)), none, none, none] dX3_matesOf_13 (by decide) rfl ?_
  refine r_lload dX3_matesOf_15 rfl ?_
  refine r_callS1 (mc := 0) (ms := 0) dX3_matesOf_17 ck_J13_bitCount_95d88 sv_J13_bitCount_95d88 lk_RX3_87 (by decide) (by decide) (As := [.long (l2 &&& x1)]) rfl rfl (Nat.le_of_ble_eq_true rfl) (Or.inl rfl) (Or.inl rfl) (e5) ?_
  refine r_istoreL [some (.ref l0), some (.int l1), some (.long l2), none, some (.long 0), none, some (.long (l2 &&& x1)), none, some (.int x2), none] dX3_matesOf_20 (by decide) rfl ?_
  exact k6

set_option maxRecDepth 20000 in
set_option maxHeartbeats 2000000 in
theorem s_X3_matesOf_22 {G : GG} {nc ns : Nat} {h : PH} {Z : Option Value → PH → Prop} {l0 : Nat} {l1 : Int32} {l2 : Int64} {l4 : Int64} {l6 : Int64} {l8 : Int32} {x1 : Int32}
    (k1 : (l8 ≤ 0) → Z (some (.long l4)) h)
    (c2 : hK h l0 = 13)
    (c3 : (hR h l0 1) ≠ 0)
    (c4 : (hK h (hR h l0 1) = 5 ∨ hK h (hR h l0 1) = 6))
    (c5 : (¬ l8 ≤ 0) → vp_in l1 (hL h (hR h l0 1)))
    (c6 : (¬ l8 ≤ 0) → (hR h (hR h l0 1) (Int32.toNatClampNeg l1)) ≠ 0)
    (e7 : (¬ l8 ≤ 0) → Ev G m_X5_lowest [.long l6] h 0 0 (Ret (some (.int x1)) h))
    (c8 : (¬ l8 ≤ 0) → hK h (hR h (hR h l0 1) (Int32.toNatClampNeg l1)) = 2)
    (c9 : (¬ l8 ≤ 0) → vp_in x1 (hL h (hR h (hR h l0 1) (Int32.toNatClampNeg l1))))
    (k10 : (¬ l8 ≤ 0) → ((hI h (hR h (hR h l0 1) (Int32.toNatClampNeg l1)) (Int32.toNatClampNeg x1)) = (-3)) → RR G nc ns m_X3_matesOf 22 [some (.ref l0), some (.int l1), some (.long l2), none, some (.long l4), none, some (.long (l6 &&& (l6 - 1))), none, some (.int (l8 + (-1))), none] [] h Z)
    (k11 : (¬ l8 ≤ 0) → (¬ (hI h (hR h (hR h l0 1) (Int32.toNatClampNeg l1)) (Int32.toNatClampNeg x1)) = (-3)) → RR G nc ns m_X3_matesOf 22 [some (.ref l0), some (.int l1), some (.long l2), none, some (.long (l4 ||| (1 <<< (Int32.toInt64 (hI h (hR h (hR h l0 1) (Int32.toNatClampNeg l1)) (Int32.toNatClampNeg x1)) &&& 63)))), none, some (.long (l6 &&& (l6 - 1))), none, some (.int (l8 + (-1))), none] [] h Z) :
    RR G nc ns m_X3_matesOf 22 [some (.ref l0), some (.int l1), some (.long l2), none, some (.long l4), none, some (.long l6), none, some (.int l8), none] [] h Z := by
  refine r_iload dX3_matesOf_22 rfl ?_
  refine r_if_le 72 dX3_matesOf_24 (by decide) (fun q1 => ?_) (fun q1 => ?_)
  · refine r_lload dX3_matesOf_72 rfl ?_
    exact r_lreturn dX3_matesOf_74 rfl (k1 q1)
  · refine r_aload_n dX3_matesOf_27 rfl ?_
    refine r_getR (c := 3) (k := 1) dX3_matesOf_28 rfl rfl (by decide) fl_RX3_23 (c2) rfl (c3) ?_
    refine r_iload_n dX3_matesOf_31 rfl ?_
    refine r_aaloadJ (Int32.toNatClampNeg l1) dX3_matesOf_32 (c4) (c5 q1) rfl (c6 q1) ?_
    refine r_lload dX3_matesOf_33 rfl ?_
    refine r_callSN1 (mc := 0) (ms := 0) dX3_matesOf_35 ck_X5_lowest sv_X5_lowest lk_RX3_93 (by decide) (by decide) (As := [.long l6]) rfl rfl (Nat.le_of_ble_eq_true rfl) (Or.inl rfl) (Or.inl rfl) (e7 q1) ?_
    refine r_ialoadJ (Int32.toNatClampNeg x1) dX3_matesOf_38 (c8 q1) (c9 q1) rfl ?_
    refine r_istoreL [some (.ref l0), some (.int l1), some (.long l2), none, some (.long l4), none, some (.long l6), none, some (.int l8), some (.int (hI h (hR h (hR h l0 1) (Int32.toNatClampNeg l1)) (Int32.toNatClampNeg x1)))] dX3_matesOf_39 (by decide) rfl ?_
    refine r_lload dX3_matesOf_41 rfl ?_
    refine r_lload dX3_matesOf_43 rfl ?_
    refine r_lconst (v := 1) dX3_matesOf_45 (by decide) ?_
    refine r_lsub dX3_matesOf_46 ?_
    refine r_land dX3_matesOf_47 ?_
    refine r_lstoreL [some (.ref l0), some (.int l1), some (.long l2), none, some (.long l4), none, some (.long (l6 &&& (l6 - 1))), none, some (.int l8), some (.int (hI h (hR h (hR h l0 1) (Int32.toNatClampNeg l1)) (Int32.toNatClampNeg x1)))] dX3_matesOf_48 (by decide) rfl ?_
    refine r_iload dX3_matesOf_50 rfl ?_
    refine r_bipush (v := (-3)) dX3_matesOf_52 (by decide) ?_
    refine r_icmp_eq 66 dX3_matesOf_54 (by decide) (fun q2 => ?_) (fun q2 => ?_)
    · refine r_iincL (v := l8 + (-1)) [some (.ref l0), some (.int l1), some (.long l2), none, some (.long l4), none, some (.long (l6 &&& (l6 - 1))), none, some (.int (l8 + (-1))), some (.int (hI h (hR h (hR h l0 1) (Int32.toNatClampNeg l1)) (Int32.toNatClampNeg x1)))] dX3_matesOf_66 rfl (by decide) rfl rfl ?_
      refine r_goto (tgt := 22) dX3_matesOf_69 (by decide) ?_
      exact RR.sub (k10 q1 q2) (And.intro rfl (And.intro rfl (And.intro rfl (And.intro rfl (And.intro rfl (And.intro rfl (trivial)))))))
    · refine r_lload dX3_matesOf_57 rfl ?_
      refine r_lconst (v := 1) dX3_matesOf_59 (by decide) ?_
      refine r_iload dX3_matesOf_60 rfl ?_
      refine r_lshl dX3_matesOf_62 ?_
      refine r_lor dX3_matesOf_63 ?_
      refine r_lstoreL [some (.ref l0), some (.int l1), some (.long l2), none, some (.long (l4 ||| (1 <<< (Int32.toInt64 (hI h (hR h (hR h l0 1) (Int32.toNatClampNeg l1)) (Int32.toNatClampNeg x1)) &&& 63)))), none, some (.long (l6 &&& (l6 - 1))), none, some (.int l8), some (.int (hI h (hR h (hR h l0 1) (Int32.toNatClampNeg l1)) (Int32.toNatClampNeg x1)))] dX3_matesOf_64 (by decide) rfl ?_
      refine r_iincL (v := l8 + (-1)) [some (.ref l0), some (.int l1), some (.long l2), none, some (.long (l4 ||| (1 <<< (Int32.toInt64 (hI h (hR h (hR h l0 1) (Int32.toNatClampNeg l1)) (Int32.toNatClampNeg x1)) &&& 63)))), none, some (.long (l6 &&& (l6 - 1))), none, some (.int (l8 + (-1))), some (.int (hI h (hR h (hR h l0 1) (Int32.toNatClampNeg l1)) (Int32.toNatClampNeg x1)))] dX3_matesOf_66 rfl (by decide) rfl rfl ?_
      refine r_goto (tgt := 22) dX3_matesOf_69 (by decide) ?_
      exact RR.sub (k11 q1 q2) (And.intro rfl (And.intro rfl (And.intro rfl (And.intro rfl (And.intro rfl (And.intro rfl (trivial)))))))

set_option maxRecDepth 20000 in
set_option maxHeartbeats 2000000 in
theorem s_X3_nodesOfPart_0 {G : GG} {nc ns : Nat} {h : PH} {Z : Option Value → PH → Prop} {l0 : Nat} {l1 : Int32} {l2 : Int32}
    (c1 : hK h l0 = 13)
    (c2 : (hR h l0 4) ≠ 0)
    (c3 : (hK h (hR h l0 4) = 5 ∨ hK h (hR h l0 4) = 6))
    (c4 : vp_in l1 (hL h (hR h l0 4)))
    (c5 : (hR h (hR h l0 4) (Int32.toNatClampNeg l1)) ≠ 0)
    (c6 : hK h (hR h (hR h l0 4) (Int32.toNatClampNeg l1)) = 3)
    (c7 : vp_in l2 (hL h (hR h (hR h l0 4) (Int32.toNatClampNeg l1))))
    (k8 : Z (some (.long (hJ h (hR h (hR h l0 4) (Int32.toNatClampNeg l1)) (Int32.toNatClampNeg l2)))) h) :
    RR G nc ns m_X3_nodesOfPart 0 [some (.ref l0), some (.int l1), some (.int l2)] [] h Z := by
  refine r_aload_n dX3_nodesOfPart_0 rfl ?_
  refine r_getR (c := 3) (k := 4) dX3_nodesOfPart_1 rfl rfl (by decide) fl_RX3_35 (c1) rfl (c2) ?_
  refine r_iload_n dX3_nodesOfPart_4 rfl ?_
  refine r_aaloadJ (Int32.toNatClampNeg l1) dX3_nodesOfPart_5 (c3) (c4) rfl (c5) ?_
  refine r_iload_n dX3_nodesOfPart_6 rfl ?_
  refine r_laloadJ (Int32.toNatClampNeg l2) dX3_nodesOfPart_7 (c6) (c7) rfl ?_
  exact r_lreturn dX3_nodesOfPart_8 rfl (k8)

set_option maxRecDepth 20000 in
set_option maxHeartbeats 2000000 in
theorem s_X3_partOf_0 {G : GG} {nc ns : Nat} {h : PH} {Z : Option Value → PH → Prop} {l0 : Nat} {l1 : Int32} {l2 : Int32} {x1 : Int32} {x2 : Int32}
    (c1 : hK h l0 = 13)
    (c2 : (hR h l0 4) ≠ 0)
    (c3 : (hK h (hR h l0 4) = 5 ∨ hK h (hR h l0 4) = 6))
    (c4 : vp_in l1 (hL h (hR h l0 4)))
    (c5 : (hR h (hR h l0 4) (Int32.toNatClampNeg l1)) ≠ 0)
    (c6 : hK h (hR h (hR h l0 4) (Int32.toNatClampNeg l1)) = 3)
    (c7 : vp_in 0 (hL h (hR h (hR h l0 4) (Int32.toNatClampNeg l1))))
    (e8 : Ev G m_X5_contains [.long (hJ h (hR h (hR h l0 4) (Int32.toNatClampNeg l1)) 0), .int l2] h 0 0 (Ret (some (.int x1)) h))
    (c9 : (x1 = 0) → vp_in 2 (hL h (hR h (hR h l0 4) (Int32.toNatClampNeg l1))))
    (e10 : (x1 = 0) → Ev G m_X5_contains [.long (hJ h (hR h (hR h l0 4) (Int32.toNatClampNeg l1)) 2), .int l2] h 0 0 (Ret (some (.int x2)) h))
    (k11 : (x1 = 0) → (x2 = 0) → Z (some (.int 1)) h)
    (k12 : (x1 = 0) → (¬ x2 = 0) → Z (some (.int 2)) h)
    (k13 : (¬ x1 = 0) → Z (some (.int 0)) h) :
    RR G nc ns m_X3_partOf 0 [some (.ref l0), some (.int l1), some (.int l2)] [] h Z := by
  refine r_aload_n dX3_partOf_0 rfl ?_
  refine r_getR (c := 3) (k := 4) dX3_partOf_1 rfl rfl (by decide) fl_RX3_35 (c1) rfl (c2) ?_
  refine r_iload_n dX3_partOf_4 rfl ?_
  refine r_aaloadJ (Int32.toNatClampNeg l1) dX3_partOf_5 (c3) (c4) rfl (c5) ?_
  refine r_iconst (v := 0) dX3_partOf_6 (by decide) ?_
  refine r_laloadJ 0 dX3_partOf_7 (c6) (c7) (by decide) ?_
  refine r_iload_n dX3_partOf_8 rfl ?_
  refine r_callSN1 (mc := 0) (ms := 0) dX3_partOf_9 ck_X5_contains sv_X5_contains lk_RX3_96 (by decide) (by decide) (As := [.long (hJ h (hR h (hR h l0 4) (Int32.toNatClampNeg l1)) 0), .int l2]) rfl rfl (Nat.le_of_ble_eq_true rfl) (Or.inl rfl) (Or.inl rfl) (e8) ?_
  refine r_if_eq 17 dX3_partOf_12 (by decide) (fun q1 => ?_) (fun q1 => ?_)
  · refine r_aload_n dX3_partOf_17 rfl ?_
    refine r_getR (c := 3) (k := 4) dX3_partOf_18 rfl rfl (by decide) fl_RX3_35 (c1) rfl (c2) ?_
    refine r_iload_n dX3_partOf_21 rfl ?_
    refine r_aaloadJ (Int32.toNatClampNeg l1) dX3_partOf_22 (c3) (c4) rfl (c5) ?_
    refine r_iconst (v := 2) dX3_partOf_23 (by decide) ?_
    refine r_laloadJ 2 dX3_partOf_24 (c6) (c9 q1) (by decide) ?_
    refine r_iload_n dX3_partOf_25 rfl ?_
    refine r_callSN1 (mc := 0) (ms := 0) dX3_partOf_26 ck_X5_contains sv_X5_contains lk_RX3_96 (by decide) (by decide) (As := [.long (hJ h (hR h (hR h l0 4) (Int32.toNatClampNeg l1)) 2), .int l2]) rfl rfl (Nat.le_of_ble_eq_true rfl) (Or.inl rfl) (Or.inl rfl) (e10 q1) ?_
    refine r_if_eq 36 dX3_partOf_29 (by decide) (fun q2 => ?_) (fun q2 => ?_)
    · refine r_iconst (v := 1) dX3_partOf_36 (by decide) ?_
      exact r_ireturn dX3_partOf_37 rfl (k11 q1 q2)
    · refine r_iconst (v := 2) dX3_partOf_32 (by decide) ?_
      refine r_goto (tgt := 37) dX3_partOf_33 (by decide) ?_
      exact r_ireturn dX3_partOf_37 rfl (k12 q1 q2)
  · refine r_iconst (v := 0) dX3_partOf_15 (by decide) ?_
    exact r_ireturn dX3_partOf_16 rfl (k13 q1)

set_option maxRecDepth 20000 in
set_option maxHeartbeats 2000000 in
theorem s_X3_nodesInPart_0 {G : GG} {nc ns : Nat} {h : PH} {Z : Option Value → PH → Prop} {l0 : Nat} {l1 : Int32} {x1 : Int32} {x2 : Int32}
    (c1 : hK h l0 = 13)
    (c2 : (hR h l0 4) ≠ 0)
    (c3 : (hK h (hR h l0 4) = 5 ∨ hK h (hR h l0 4) = 6))
    (c4 : vp_in 0 (hL h (hR h l0 4)))
    (c5 : (hR h (hR h l0 4) 0) ≠ 0)
    (c6 : hK h (hR h (hR h l0 4) 0) = 3)
    (c7 : vp_in l1 (hL h (hR h (hR h l0 4) 0)))
    (e8 : Ev G m_J13_bitCount_95d88 [.long (hJ h (hR h (hR h l0 4) 0) (Int32.toNatClampNeg l1))] h 0 0 (Ret (some (.int x1)) h))
    (c9 : vp_in 1 (hL h (hR h l0 4)))
    (c10 : (hR h (hR h l0 4) 1) ≠ 0)
    (c11 : hK h (hR h (hR h l0 4) 1) = 3)
    (c12 : vp_in l1 (hL h (hR h (hR h l0 4) 1)))
    (e13 : Ev G m_J13_bitCount_95d88 [.long (hJ h (hR h (hR h l0 4) 1) (Int32.toNatClampNeg l1))] h 0 0 (Ret (some (.int x2)) h))
    (k14 : Z (some (.int (x1 + x2))) h) :
    RR G nc ns m_X3_nodesInPart 0 [some (.ref l0), some (.int l1)] [] h Z := by
  refine r_aload_n dX3_nodesInPart_0 rfl ?_
  refine r_getR (c := 3) (k := 4) dX3_nodesInPart_1 rfl rfl (by decide) fl_RX3_35 (c1) rfl (c2) ?_
  refine r_iconst (v := 0) dX3_nodesInPart_4 (by decide) ?_
  refine r_aaloadJ 0 dX3_nodesInPart_5 (c3) (c4) (by decide) (c5) ?_
  refine r_iload_n dX3_nodesInPart_6 rfl ?_
  refine r_laloadJ (Int32.toNatClampNeg l1) dX3_nodesInPart_7 (c6) (c7) rfl ?_
  refine r_callS1 (mc := 0) (ms := 0) dX3_nodesInPart_8 ck_J13_bitCount_95d88 sv_J13_bitCount_95d88 lk_RX3_87 (by decide) (by decide) (As := [.long (hJ h (hR h (hR h l0 4) 0) (Int32.toNatClampNeg l1))]) rfl rfl (Nat.le_of_ble_eq_true rfl) (Or.inl rfl) (Or.inl rfl) (e8) ?_
  refine r_aload_n dX3_nodesInPart_11 rfl ?_
  refine r_getR (c := 3) (k := 4) dX3_nodesInPart_12 rfl rfl (by decide) fl_RX3_35 (c1) rfl (c2) ?_
  refine r_iconst (v := 1) dX3_nodesInPart_15 (by decide) ?_
  refine r_aaloadJ 1 dX3_nodesInPart_16 (c3) (c9) (by decide) (c10) ?_
  refine r_iload_n dX3_nodesInPart_17 rfl ?_
  refine r_laloadJ (Int32.toNatClampNeg l1) dX3_nodesInPart_18 (c11) (c12) rfl ?_
  refine r_callS1 (mc := 0) (ms := 0) dX3_nodesInPart_19 ck_J13_bitCount_95d88 sv_J13_bitCount_95d88 lk_RX3_87 (by decide) (by decide) (As := [.long (hJ h (hR h (hR h l0 4) 1) (Int32.toNatClampNeg l1))]) rfl rfl (Nat.le_of_ble_eq_true rfl) (Or.inl rfl) (Or.inl rfl) (e13) ?_
  refine r_iadd dX3_nodesInPart_22 ?_
  exact r_ireturn dX3_nodesInPart_23 rfl (k14)

set_option maxRecDepth 20000 in
set_option maxHeartbeats 2000000 in
theorem s_X3_isInCover_0 {G : GG} {nc ns : Nat} {h : PH} {Z : Option Value → PH → Prop} {l0 : Nat} {l1 : Int32} {l2 : Int32} {l3 : Int32} {x1 : Int32}
    (e1 : Ev G m_X3_partOf [.ref l0, .int l2, .int l3] h 0 0 (Ret (some (.int x1)) h))
    (c2 : hK h l0 = 13)
    (k3 : (¬ x1 = 1) → (¬ l2 = 0) → (¬ x1 = 0) → Z (some (.int 0)) h)
    (k4 : (¬ x1 = 1) → (¬ l2 = 0) → (x1 = 0) → Z (some (.int 1)) h)
    (k5 : (¬ x1 = 1) → (l2 = 0) → (¬ x1 = 2) → Z (some (.int 0)) h)
    (k6 : (¬ x1 = 1) → (l2 = 0) → (x1 = 2) → Z (some (.int 1)) h)
    (k7 : (x1 = 1) → (¬ l2 = l1) → Z (some (.int 0)) h)
    (k8 : (x1 = 1) → (l2 = l1) → Z (some (.int 1)) h) :
    RR G nc ns m_X3_isInCover 0 [some (.ref l0), some (.int l1), some (.int l2), some (.int l3), none] [] h Z := by
  refine r_aload_n dX3_isInCover_0 rfl ?_
  refine r_iload_n dX3_isInCover_1 rfl ?_
  refine r_iload_n dX3_isInCover_2 rfl ?_
  refine r_callV1 (c := 3) (mc := 0) (ms := 0) dX3_isInCover_3 ck_X3_partOf iv_X3_partOf sl_X3_partOf lk_RX3_100 rfl rfl (c2) (by decide) (by decide) (As := [.int l2, .int l3]) rfl rfl (Nat.le_of_ble_eq_true rfl) (Or.inl rfl) (Or.inl rfl) (e1) ?_
  refine r_istoreL [some (.ref l0), some (.int l1), some (.int l2), some (.int l3), some (.int x1)] dX3_isInCover_6 (by decide) rfl ?_
  refine r_iload dX3_isInCover_8 rfl ?_
  refine r_iconst (v := 1) dX3_isInCover_10 (by decide) ?_
  refine r_icmp_ne 25 dX3_isInCover_11 (by decide) (fun q1 => ?_) (fun q1 => ?_)
  · refine r_iload_n dX3_isInCover_25 rfl ?_
    refine r_if_ne 43 dX3_isInCover_26 (by decide) (fun q2 => ?_) (fun q2 => ?_)
    · refine r_iload dX3_isInCover_43 rfl ?_
      refine r_if_ne 52 dX3_isInCover_45 (by decide) (fun q3 => ?_) (fun q3 => ?_)
      · refine r_iconst (v := 0) dX3_isInCover_52 (by decide) ?_
        exact r_zreturn dX3_isInCover_53 rfl (by decide) (k3 q1 q2 q3)
      · refine r_iconst (v := 1) dX3_isInCover_48 (by decide) ?_
        refine r_goto (tgt := 53) dX3_isInCover_49 (by decide) ?_
        exact r_zreturn dX3_isInCover_53 rfl (by decide) (k4 q1 q2 q3)
    · refine r_iload dX3_isInCover_29 rfl ?_
      refine r_iconst (v := 2) dX3_isInCover_31 (by decide) ?_
      refine r_icmp_ne 39 dX3_isInCover_32 (by decide) (fun q4 => ?_) (fun q4 => ?_)
      · refine r_iconst (v := 0) dX3_isInCover_39 (by decide) ?_
        refine r_goto (tgt := 53) dX3_isInCover_40 (by decide) ?_
        exact r_zreturn dX3_isInCover_53 rfl (by decide) (k5 q1 q2 q4)
      · refine r_iconst (v := 1) dX3_isInCover_35 (by decide) ?_
        refine r_goto (tgt := 53) dX3_isInCover_36 (by decide) ?_
        exact r_zreturn dX3_isInCover_53 rfl (by decide) (k6 q1 q2 q4)
  · refine r_iload_n dX3_isInCover_14 rfl ?_
    refine r_iload_n dX3_isInCover_15 rfl ?_
    refine r_icmp_ne 23 dX3_isInCover_16 (by decide) (fun q5 => ?_) (fun q5 => ?_)
    · refine r_iconst (v := 0) dX3_isInCover_23 (by decide) ?_
      exact r_zreturn dX3_isInCover_24 rfl (by decide) (k7 q1 q5)
    · refine r_iconst (v := 1) dX3_isInCover_19 (by decide) ?_
      refine r_goto (tgt := 24) dX3_isInCover_20 (by decide) ?_
      exact r_zreturn dX3_isInCover_24 rfl (by decide) (k8 q1 q5)

set_option maxRecDepth 20000 in
set_option maxHeartbeats 2000000 in
theorem s_X3_begin_0 {G : GG} {nc ns : Nat} {h : PH} {Z : Option Value → PH → Prop} {l0 : Nat}
    (k1 : RR G nc ns m_X3_begin 2 [some (.ref l0), some (.int 0)] [] h Z) :
    RR G nc ns m_X3_begin 0 [some (.ref l0), none] [] h Z := by
  refine r_iconst (v := 0) dX3_begin_0 (by decide) ?_
  refine r_istore_nL [some (.ref l0), some (.int 0)] dX3_begin_1 (by decide) rfl ?_
  exact k1

set_option maxRecDepth 20000 in
set_option maxHeartbeats 2000000 in
theorem s_X3_begin_2 {G : GG} {nc ns : Nat} {h : PH} {Z : Option Value → PH → Prop} {l0 : Nat} {l1 : Int32} {P1 : PH → Prop} {P2 : PH → Prop}
    (c1 : hK h l0 = 13)
    (e2 : (1 < l1) → Ev G m_X3_openAll [.ref l0] (sI h l0 7 0) 0 0 (RV P1))
    (k3 : (1 < l1) → ∀ (h1 : PH), P1 h1 → hN h1 = (hN h) → hS h1 = (hS h) → RR G nc ns m_X3_begin 40 [some (.ref l0), some (.int l1)] [] h1 Z)
    (c4 : (hR h l0 1) ≠ 0)
    (c5 : (hK h (hR h l0 1) = 5 ∨ hK h (hR h l0 1) = 6))
    (c6 : (¬ 1 < l1) → vp_in l1 (hL h (hR h l0 1)))
    (c7 : (¬ 1 < l1) → (hR h (hR h l0 1) (Int32.toNatClampNeg l1)) ≠ 0)
    (e8 : (¬ 1 < l1) → Ev G m_J7_fill_53178 [.ref (hR h (hR h l0 1) (Int32.toNatClampNeg l1)), .int (-3)] h 0 0 (RV P2))
    (k9 : (¬ 1 < l1) → ∀ (h2 : PH), P2 h2 → hN h2 = (hN h) → hS h2 = (hS h) → RR G nc ns m_X3_begin 18 [some (.ref l0), some (.int l1)] [] h2 Z) :
    RR G nc ns m_X3_begin 2 [some (.ref l0), some (.int l1)] [] h Z := by
  refine r_iload_n dX3_begin_2 rfl ?_
  refine r_iconst (v := 1) dX3_begin_3 (by decide) ?_
  refine r_icmp_gt 31 dX3_begin_4 (by decide) (fun q1 => ?_) (fun q1 => ?_)
  · refine r_aload_n dX3_begin_31 rfl ?_
    refine r_iconst (v := 0) dX3_begin_32 (by decide) ?_
    refine r_putI (c := 3) (k := 7) dX3_begin_33 rfl rfl (by decide) fl_RX3_45 (c1) (Or.inl rfl) (Or.inl rfl) ?_
    refine r_aload_n dX3_begin_36 rfl ?_
    refine r_callV (c := 3) (mc := 0) (ms := 0) dX3_begin_37 ck_X3_openAll iv_X3_openAll sl_X3_openAll lk_RX3_74 rfl rfl (c1) (by decide) (by decide) (As := []) rfl rfl (Nat.le_of_ble_eq_true rfl) (Or.inl rfl) (Or.inl rfl) (e2 q1) ?_
    rintro v1 h1 ⟨rfl, z1⟩ n1 t1
    exact k3 q1 h1 z1 n1 t1
  · refine r_aload_n dX3_begin_7 rfl ?_
    refine r_getR (c := 3) (k := 1) dX3_begin_8 rfl rfl (by decide) fl_RX3_23 (c1) rfl (c4) ?_
    refine r_iload_n dX3_begin_11 rfl ?_
    refine r_aaloadJ (Int32.toNatClampNeg l1) dX3_begin_12 (c5) (c6 q1) rfl (c7 q1) ?_
    refine r_bipush (v := (-3)) dX3_begin_13 (by decide) ?_
    refine r_callS (mc := 0) (ms := 0) dX3_begin_15 ck_J7_fill_53178 sv_J7_fill_53178 lk_RX3_104 (by decide) (by decide) (As := [.ref (hR h (hR h l0 1) (Int32.toNatClampNeg l1)), .int (-3)]) rfl rfl (Nat.le_of_ble_eq_true rfl) (Or.inl rfl) (Or.inl rfl) (e8 q1) ?_
    rintro v2 h2 ⟨rfl, z2⟩ n2 t2
    exact k9 q1 h2 z2 n2 t2

set_option maxRecDepth 20000 in
set_option maxHeartbeats 2000000 in
theorem s_X3_begin_18 {G : GG} {nc ns : Nat} {h : PH} {Z : Option Value → PH → Prop} {l0 : Nat} {l1 : Int32}
    (c1 : hK h l0 = 13)
    (c2 : (hR h l0 2) ≠ 0)
    (c3 : hK h (hR h l0 2) = 3)
    (c4 : vp_in l1 (hL h (hR h l0 2)))
    (k5 : RR G nc ns m_X3_begin 2 [some (.ref l0), some (.int (l1 + 1))] [] (sJ h (hR h l0 2) (Int32.toNatClampNeg l1) 0) Z) :
    RR G nc ns m_X3_begin 18 [some (.ref l0), some (.int l1)] [] h Z := by
  refine r_aload_n dX3_begin_18 rfl ?_
  refine r_getR (c := 3) (k := 2) dX3_begin_19 rfl rfl (by decide) fl_RX3_26 (c1) rfl (c2) ?_
  refine r_iload_n dX3_begin_22 rfl ?_
  refine r_lconst (v := 0) dX3_begin_23 (by decide) ?_
  refine r_lastoreJ (Int32.toNatClampNeg l1) dX3_begin_24 (c3) (c4) rfl ?_
  refine r_iincL (v := l1 + 1) [some (.ref l0), some (.int (l1 + 1))] dX3_begin_25 rfl (by decide) rfl rfl ?_
  refine r_goto (tgt := 2) dX3_begin_28 (by decide) ?_
  exact k5

set_option maxRecDepth 20000 in
set_option maxHeartbeats 2000000 in
theorem s_X3_begin_40 {G : GG} {nc ns : Nat} {h : PH} {Z : Option Value → PH → Prop} {l0 : Nat} {l1 : Int32}
    (k1 : Z none h) :
    RR G nc ns m_X3_begin 40 [some (.ref l0), some (.int l1)] [] h Z := by
  exact r_return dX3_begin_40 rfl (k1)

set_option maxRecDepth 20000 in
set_option maxHeartbeats 2000000 in
theorem s_X3_openAll_0 {G : GG} {nc ns : Nat} {h : PH} {Z : Option Value → PH → Prop} {l0 : Nat} {x1 : Int64} {x2 : Int64}
    (c1 : hK h l0 = 13)
    (c2 : (hR h l0 3) ≠ 0)
    (c3 : (hR h l0 0) ≠ 0)
    (e4 : Ev G m_X1_all [.ref (hR h l0 0), .int 0] h 0 0 (Ret (some (.long x1)) h))
    (c5 : hK h (hR h l0 0) = 11)
    (c6 : hK h (hR h l0 3) = 3)
    (c7 : vp_in 0 (hL h (hR h l0 3)))
    (e8 : Ev G m_X1_all [.ref (hR h l0 0), .int 1] (sJ h (hR h l0 3) 0 x1) 0 0 (Ret (some (.long x2)) (sJ h (hR h l0 3) 0 x1)))
    (c9 : vp_in 1 (hL h (hR h l0 3)))
    (k10 : Z none (sJ (sJ h (hR h l0 3) 0 x1) (hR h l0 3) 1 x2)) :
    RR G nc ns m_X3_openAll 0 [some (.ref l0)] [] h Z := by
  refine r_aload_n dX3_openAll_0 rfl ?_
  refine r_getR (c := 3) (k := 3) dX3_openAll_1 rfl rfl (by decide) fl_RX3_30 (c1) rfl (c2) ?_
  refine r_iconst (v := 0) dX3_openAll_4 (by decide) ?_
  refine r_aload_n dX3_openAll_5 rfl ?_
  refine r_getR (c := 3) (k := 0) dX3_openAll_6 rfl rfl (by decide) fl_RX3_9 (c1) rfl (c3) ?_
  refine r_iconst (v := 0) dX3_openAll_9 (by decide) ?_
  refine r_callV1 (c := 1) (mc := 0) (ms := 0) dX3_openAll_10 ck_X1_all iv_X1_all sl_X1_all lk_RX3_84 rfl rfl (c5) (by decide) (by decide) (As := [.int 0]) rfl rfl (Nat.le_of_ble_eq_true rfl) (Or.inl rfl) (Or.inl rfl) (e4) ?_
  refine r_lastoreJ 0 dX3_openAll_13 (c6) (c7) (by decide) ?_
  refine r_aload_n dX3_openAll_14 rfl ?_
  refine r_getR (c := 3) (k := 3) dX3_openAll_15 rfl rfl (by decide) fl_RX3_30 (c1) rfl (c2) ?_
  refine r_iconst (v := 1) dX3_openAll_18 (by decide) ?_
  refine r_aload_n dX3_openAll_19 rfl ?_
  refine r_getR (c := 3) (k := 0) dX3_openAll_20 rfl rfl (by decide) fl_RX3_9 (c1) rfl (c3) ?_
  refine r_iconst (v := 1) dX3_openAll_23 (by decide) ?_
  refine r_callV1 (c := 1) (mc := 0) (ms := 0) dX3_openAll_24 ck_X1_all iv_X1_all sl_X1_all lk_RX3_84 rfl rfl (c5) (by decide) (by decide) (As := [.int 1]) rfl rfl (Nat.le_of_ble_eq_true rfl) (Or.inl rfl) (Or.inl rfl) (e8) ?_
  refine r_lastoreJ 1 dX3_openAll_27 (c6) (c9) (by decide) ?_
  exact r_return dX3_openAll_28 rfl (k10)

set_option maxRecDepth 20000 in
set_option maxHeartbeats 2000000 in
theorem s_X3_bare_0 {G : GG} {nc ns : Nat} {h : PH} {Z : Option Value → PH → Prop} {l0 : Nat} {l1 : Int32}
    (c1 : hK h l0 = 13)
    (c2 : (hR h l0 3) ≠ 0)
    (c3 : hK h (hR h l0 3) = 3)
    (c4 : vp_in l1 (hL h (hR h l0 3)))
    (c5 : (hR h l0 2) ≠ 0)
    (c6 : hK h (hR h l0 2) = 3)
    (c7 : vp_in l1 (hL h (hR h l0 2)))
    (k8 : Z (some (.long ((hJ h (hR h l0 3) (Int32.toNatClampNeg l1)) &&& ((hJ h (hR h l0 2) (Int32.toNatClampNeg l1)) ^^^ (-1))))) h) :
    RR G nc ns m_X3_bare 0 [some (.ref l0), some (.int l1)] [] h Z := by
  refine r_aload_n dX3_bare_0 rfl ?_
  refine r_getR (c := 3) (k := 3) dX3_bare_1 rfl rfl (by decide) fl_RX3_30 (c1) rfl (c2) ?_
  refine r_iload_n dX3_bare_4 rfl ?_
  refine r_laloadJ (Int32.toNatClampNeg l1) dX3_bare_5 (c3) (c4) rfl ?_
  refine r_aload_n dX3_bare_6 rfl ?_
  refine r_getR (c := 3) (k := 2) dX3_bare_7 rfl rfl (by decide) fl_RX3_26 (c1) rfl (c5) ?_
  refine r_iload_n dX3_bare_10 rfl ?_
  refine r_laloadJ (Int32.toNatClampNeg l1) dX3_bare_11 (c6) (c7) rfl ?_
  refine r_ldc2 (v := (-1)) dX3_bare_12 cn_RX3_110 ?_
  refine r_lxor dX3_bare_15 ?_
  refine r_land dX3_bare_16 ?_
  exact r_lreturn dX3_bare_17 rfl (k8)

set_option maxRecDepth 20000 in
set_option maxHeartbeats 2000000 in
theorem s_X3_pair_0 {G : GG} {nc ns : Nat} {h : PH} {Z : Option Value → PH → Prop} {l0 : Nat} {l1 : Int32} {l2 : Int32}
    (c1 : hK h l0 = 13)
    (c2 : (hR h l0 1) ≠ 0)
    (c3 : (hK h (hR h l0 1) = 5 ∨ hK h (hR h l0 1) = 6))
    (c4 : vp_in 0 (hL h (hR h l0 1)))
    (c5 : (hR h (hR h l0 1) 0) ≠ 0)
    (c6 : hK h (hR h (hR h l0 1) 0) = 2)
    (c7 : vp_in l1 (hL h (hR h (hR h l0 1) 0)))
    (c8 : vp_in 1 (hL h (hR h l0 1)))
    (c9 : (hR h (hR h l0 1) 1) ≠ 0)
    (c10 : hK h (hR h (hR h l0 1) 1) = 2)
    (c11 : vp_in l2 (hL h (hR h (hR h l0 1) 1)))
    (c12 : (hR h l0 2) ≠ 0)
    (c13 : hK h (hR h l0 2) = 3)
    (c14 : vp_in 0 (hL h (hR h l0 2)))
    (c15 : vp_in 1 (hL h (hR h l0 2)))
    (k16 : Z none (sJ (sJ (sI (sI h (hR h (hR h l0 1) 0) (Int32.toNatClampNeg l1) l2) (hR h (hR h l0 1) 1) (Int32.toNatClampNeg l2) l1) (hR h l0 2) 0 ((hJ h (hR h l0 2) 0) ||| (1 <<< (Int32.toInt64 l1 &&& 63)))) (hR h l0 2) 1 ((hJ (sJ h (hR h l0 2) 0 ((hJ h (hR h l0 2) 0) ||| (1 <<< (Int32.toInt64 l1 &&& 63)))) (hR h l0 2) 1) ||| (1 <<< (Int32.toInt64 l2 &&& 63))))) :
    RR G nc ns m_X3_pair 0 [some (.ref l0), some (.int l1), some (.int l2)] [] h Z := by
  refine r_aload_n dX3_pair_0 rfl ?_
  refine r_getR (c := 3) (k := 1) dX3_pair_1 rfl rfl (by decide) fl_RX3_23 (c1) rfl (c2) ?_
  refine r_iconst (v := 0) dX3_pair_4 (by decide) ?_
  refine r_aaloadJ 0 dX3_pair_5 (c3) (c4) (by decide) (c5) ?_
  refine r_iload_n dX3_pair_6 rfl ?_
  refine r_iload_n dX3_pair_7 rfl ?_
  refine r_iastoreJ (Int32.toNatClampNeg l1) dX3_pair_8 (c6) (c7) rfl ?_
  refine r_aload_n dX3_pair_9 rfl ?_
  refine r_getR (c := 3) (k := 1) dX3_pair_10 rfl rfl (by decide) fl_RX3_23 (c1) rfl (c2) ?_
  refine r_iconst (v := 1) dX3_pair_13 (by decide) ?_
  refine r_aaloadJ 1 dX3_pair_14 (c3) (c8) (by decide) (c9) ?_
  refine r_iload_n dX3_pair_15 rfl ?_
  refine r_iload_n dX3_pair_16 rfl ?_
  refine r_iastoreJ (Int32.toNatClampNeg l2) dX3_pair_17 (c10) (c11) rfl ?_
  refine r_aload_n dX3_pair_18 rfl ?_
  refine r_getR (c := 3) (k := 2) dX3_pair_19 rfl rfl (by decide) fl_RX3_26 (c1) rfl (c12) ?_
  refine r_iconst (v := 0) dX3_pair_22 (by decide) ?_
  refine r_dup2 dX3_pair_23 rfl rfl ?_
  refine r_laloadJ 0 dX3_pair_24 (c13) (c14) (by decide) ?_
  refine r_lconst (v := 1) dX3_pair_25 (by decide) ?_
  refine r_iload_n dX3_pair_26 rfl ?_
  refine r_lshl dX3_pair_27 ?_
  refine r_lor dX3_pair_28 ?_
  refine r_lastoreJ 0 dX3_pair_29 (c13) (c14) (by decide) ?_
  refine r_aload_n dX3_pair_30 rfl ?_
  refine r_getR (c := 3) (k := 2) dX3_pair_31 rfl rfl (by decide) fl_RX3_26 (c1) rfl (c12) ?_
  refine r_iconst (v := 1) dX3_pair_34 (by decide) ?_
  refine r_dup2 dX3_pair_35 rfl rfl ?_
  refine r_laloadJ 1 dX3_pair_36 (c13) (c15) (by decide) ?_
  refine r_lconst (v := 1) dX3_pair_37 (by decide) ?_
  refine r_iload_n dX3_pair_38 rfl ?_
  refine r_lshl dX3_pair_39 ?_
  refine r_lor dX3_pair_40 ?_
  refine r_lastoreJ 1 dX3_pair_41 (c13) (c15) (by decide) ?_
  exact r_return dX3_pair_42 rfl (k16)

set_option maxRecDepth 20000 in
set_option maxHeartbeats 2000000 in
theorem s_X3_loosen_0 {G : GG} {nc ns : Nat} {h : PH} {Z : Option Value → PH → Prop} {l0 : Nat} {l1 : Int32} {l2 : Int32}
    (c1 : hK h l0 = 13)
    (c2 : (hR h l0 1) ≠ 0)
    (c3 : (hK h (hR h l0 1) = 5 ∨ hK h (hR h l0 1) = 6))
    (c4 : vp_in l1 (hL h (hR h l0 1)))
    (c5 : (hR h (hR h l0 1) (Int32.toNatClampNeg l1)) ≠ 0)
    (c6 : hK h (hR h (hR h l0 1) (Int32.toNatClampNeg l1)) = 2)
    (c7 : vp_in l2 (hL h (hR h (hR h l0 1) (Int32.toNatClampNeg l1))))
    (k8 : ((hI h (hR h (hR h l0 1) (Int32.toNatClampNeg l1)) (Int32.toNatClampNeg l2)) = (-3)) → Z none h)
    (c9 : (¬ (hI h (hR h (hR h l0 1) (Int32.toNatClampNeg l1)) (Int32.toNatClampNeg l2)) = (-3)) → vp_in (1 - l1) (hL h (hR h l0 1)))
    (c10 : (¬ (hI h (hR h (hR h l0 1) (Int32.toNatClampNeg l1)) (Int32.toNatClampNeg l2)) = (-3)) → (hR h (hR h l0 1) (Int32.toNatClampNeg (1 - l1))) ≠ 0)
    (c11 : (¬ (hI h (hR h (hR h l0 1) (Int32.toNatClampNeg l1)) (Int32.toNatClampNeg l2)) = (-3)) → hK h (hR h (hR h l0 1) (Int32.toNatClampNeg (1 - l1))) = 2)
    (c12 : (¬ (hI h (hR h (hR h l0 1) (Int32.toNatClampNeg l1)) (Int32.toNatClampNeg l2)) = (-3)) → vp_in (hI h (hR h (hR h l0 1) (Int32.toNatClampNeg l1)) (Int32.toNatClampNeg l2)) (hL h (hR h (hR h l0 1) (Int32.toNatClampNeg (1 - l1)))))
    (c13 : (hR h l0 2) ≠ 0)
    (c14 : hK h (hR h l0 2) = 3)
    (c15 : (¬ (hI h (hR h (hR h l0 1) (Int32.toNatClampNeg l1)) (Int32.toNatClampNeg l2)) = (-3)) → vp_in l1 (hL h (hR h l0 2)))
    (c16 : (¬ (hI h (hR h (hR h l0 1) (Int32.toNatClampNeg l1)) (Int32.toNatClampNeg l2)) = (-3)) → vp_in (1 - l1) (hL h (hR h l0 2)))
    (k17 : (¬ (hI h (hR h (hR h l0 1) (Int32.toNatClampNeg l1)) (Int32.toNatClampNeg l2)) = (-3)) → Z none (sJ (sJ (sI (sI h (hR h (hR h l0 1) (Int32.toNatClampNeg l1)) (Int32.toNatClampNeg l2) (-3)) (hR h (hR h l0 1) (Int32.toNatClampNeg (1 - l1))) (Int32.toNatClampNeg (hI h (hR h (hR h l0 1) (Int32.toNatClampNeg l1)) (Int32.toNatClampNeg l2))) (-3)) (hR h l0 2) (Int32.toNatClampNeg l1) ((hJ h (hR h l0 2) (Int32.toNatClampNeg l1)) &&& ((1 <<< (Int32.toInt64 l2 &&& 63)) ^^^ (-1)))) (hR h l0 2) (Int32.toNatClampNeg (1 - l1)) ((hJ (sJ h (hR h l0 2) (Int32.toNatClampNeg l1) ((hJ h (hR h l0 2) (Int32.toNatClampNeg l1)) &&& ((1 <<< (Int32.toInt64 l2 &&& 63)) ^^^ (-1)))) (hR h l0 2) (Int32.toNatClampNeg (1 - l1))) &&& ((1 <<< (Int32.toInt64 (hI h (hR h (hR h l0 1) (Int32.toNatClampNeg l1)) (Int32.toNatClampNeg l2)) &&& 63)) ^^^ (-1))))) :
    RR G nc ns m_X3_loosen 0 [some (.ref l0), some (.int l1), some (.int l2), none] [] h Z := by
  refine r_aload_n dX3_loosen_0 rfl ?_
  refine r_getR (c := 3) (k := 1) dX3_loosen_1 rfl rfl (by decide) fl_RX3_23 (c1) rfl (c2) ?_
  refine r_iload_n dX3_loosen_4 rfl ?_
  refine r_aaloadJ (Int32.toNatClampNeg l1) dX3_loosen_5 (c3) (c4) rfl (c5) ?_
  refine r_iload_n dX3_loosen_6 rfl ?_
  refine r_ialoadJ (Int32.toNatClampNeg l2) dX3_loosen_7 (c6) (c7) rfl ?_
  refine r_istore_nL [some (.ref l0), some (.int l1), some (.int l2), some (.int (hI h (hR h (hR h l0 1) (Int32.toNatClampNeg l1)) (Int32.toNatClampNeg l2)))] dX3_loosen_8 (by decide) rfl ?_
  refine r_iload_n dX3_loosen_9 rfl ?_
  refine r_bipush (v := (-3)) dX3_loosen_10 (by decide) ?_
  refine r_icmp_eq 71 dX3_loosen_12 (by decide) (fun q1 => ?_) (fun q1 => ?_)
  · exact r_return dX3_loosen_71 rfl (k8 q1)
  · refine r_aload_n dX3_loosen_15 rfl ?_
    refine r_getR (c := 3) (k := 1) dX3_loosen_16 rfl rfl (by decide) fl_RX3_23 (c1) rfl (c2) ?_
    refine r_iload_n dX3_loosen_19 rfl ?_
    refine r_aaloadJ (Int32.toNatClampNeg l1) dX3_loosen_20 (c3) (c4) rfl (c5) ?_
    refine r_iload_n dX3_loosen_21 rfl ?_
    refine r_bipush (v := (-3)) dX3_loosen_22 (by decide) ?_
    refine r_iastoreJ (Int32.toNatClampNeg l2) dX3_loosen_24 (c6) (c7) rfl ?_
    refine r_aload_n dX3_loosen_25 rfl ?_
    refine r_getR (c := 3) (k := 1) dX3_loosen_26 rfl rfl (by decide) fl_RX3_23 (c1) rfl (c2) ?_
    refine r_iconst (v := 1) dX3_loosen_29 (by decide) ?_
    refine r_iload_n dX3_loosen_30 rfl ?_
    refine r_isub dX3_loosen_31 ?_
    refine r_aaloadJ (Int32.toNatClampNeg (1 - l1)) dX3_loosen_32 (c3) (c9 q1) rfl (c10 q1) ?_
    refine r_iload_n dX3_loosen_33 rfl ?_
    refine r_bipush (v := (-3)) dX3_loosen_34 (by decide) ?_
    refine r_iastoreJ (Int32.toNatClampNeg (hI h (hR h (hR h l0 1) (Int32.toNatClampNeg l1)) (Int32.toNatClampNeg l2))) dX3_loosen_36 (c11 q1) (c12 q1) rfl ?_
    refine r_aload_n dX3_loosen_37 rfl ?_
    refine r_getR (c := 3) (k := 2) dX3_loosen_38 rfl rfl (by decide) fl_RX3_26 (c1) rfl (c13) ?_
    refine r_iload_n dX3_loosen_41 rfl ?_
    refine r_dup2 dX3_loosen_42 rfl rfl ?_
    refine r_laloadJ (Int32.toNatClampNeg l1) dX3_loosen_43 (c14) (c15 q1) rfl ?_
    refine r_lconst (v := 1) dX3_loosen_44 (by decide) ?_
    refine r_iload_n dX3_loosen_45 rfl ?_
    refine r_lshl dX3_loosen_46 ?_
    refine r_ldc2 (v := (-1)) dX3_loosen_47 cn_RX3_110 ?_
    refine r_lxor dX3_loosen_50 ?_
    refine r_land dX3_loosen_51 ?_
    refine r_lastoreJ (Int32.toNatClampNeg l1) dX3_loosen_52 (c14) (c15 q1) rfl ?_
    refine r_aload_n dX3_loosen_53 rfl ?_
    refine r_getR (c := 3) (k := 2) dX3_loosen_54 rfl rfl (by decide) fl_RX3_26 (c1) rfl (c13) ?_
    refine r_iconst (v := 1) dX3_loosen_57 (by decide) ?_
    refine r_iload_n dX3_loosen_58 rfl ?_
    refine r_isub dX3_loosen_59 ?_
    refine r_dup2 dX3_loosen_60 rfl rfl ?_
    refine r_laloadJ (Int32.toNatClampNeg (1 - l1)) dX3_loosen_61 (c14) (c16 q1) rfl ?_
    refine r_lconst (v := 1) dX3_loosen_62 (by decide) ?_
    refine r_iload_n dX3_loosen_63 rfl ?_
    refine r_lshl dX3_loosen_64 ?_
    refine r_ldc2 (v := (-1)) dX3_loosen_65 cn_RX3_110 ?_
    refine r_lxor dX3_loosen_68 ?_
    refine r_land dX3_loosen_69 ?_
    refine r_lastoreJ (Int32.toNatClampNeg (1 - l1)) dX3_loosen_70 (c14) (c16 q1) rfl ?_
    exact r_return dX3_loosen_71 rfl (k17 q1)

set_option maxRecDepth 20000 in
set_option maxHeartbeats 2000000 in
theorem s_X3_lengthen_0 {G : GG} {nc ns : Nat} {h : PH} {Z : Option Value → PH → Prop} {l0 : Nat} {x1 : Int64}
    (e1 : Ev G m_X3_bare [.ref l0, .int 0] h 0 0 (Ret (some (.long x1)) h))
    (c2 : hK h l0 = 13)
    (k3 : RR G nc ns m_X3_lengthen 11 [some (.ref l0), some (.int 0), some (.long x1), none, some (.int 0), none, none, none, none, none, none, none, none] [] h Z) :
    RR G nc ns m_X3_lengthen 0 [some (.ref l0), none, none, none, none, none, none, none, none, none, none, none, none] [] h Z := by
  refine r_iconst (v := 0) dX3_lengthen_0 (by decide) ?_
  refine r_istore_nL [some (.ref l0), some (.int 0), none, none, none, none, none, none, none, none, none, none, none] dX3_lengthen_1 (by decide) rfl ?_
  refine r_aload_n dX3_lengthen_2 rfl ?_
  refine r_iconst (v := 0) dX3_lengthen_3 (by decide) ?_
  refine r_callV1 (c := 3) (mc := 0) (ms := 0) dX3_lengthen_4 ck_X3_bare iv_X3_bare sl_X3_bare lk_RX3_112 rfl rfl (c2) (by decide) (by decide) (As := [.int 0]) rfl rfl (Nat.le_of_ble_eq_true rfl) (Or.inl rfl) (Or.inl rfl) (e1) ?_
  refine r_lstore_nL [some (.ref l0), some (.int 0), some (.long x1), none, none, none, none, none, none, none, none, none, none] dX3_lengthen_7 (by decide) rfl ?_
  refine r_iconst (v := 0) dX3_lengthen_8 (by decide) ?_
  refine r_istoreL [some (.ref l0), some (.int 0), some (.long x1), none, some (.int 0), none, none, none, none, none, none, none, none] dX3_lengthen_9 (by decide) rfl ?_
  exact k3

set_option maxRecDepth 20000 in
set_option maxHeartbeats 2000000 in
theorem s_X3_lengthen_11 {G : GG} {nc ns : Nat} {h : PH} {Z : Option Value → PH → Prop} {l0 : Nat} {l1 : Int32} {l2 : Int64} {l4 : Int32} {x1 : Int32} {x2 : Int32}
    (c1 : hK h l0 = 13)
    (c2 : (hR h l0 0) ≠ 0)
    (e3 : Ev G m_X1_sizeOf [.ref (hR h l0 0), .int 0] h 0 0 (Ret (some (.int x1)) h))
    (c4 : hK h (hR h l0 0) = 11)
    (c5 : (hR h l0 3) ≠ 0)
    (c6 : hK h (hR h l0 3) = 3)
    (c7 : (x1 ≤ l4) → vp_in 1 (hL h (hR h l0 3)))
    (k8 : (x1 ≤ l4) → RR G nc ns m_X3_lengthen 61 [some (.ref l0), some (.int l1), some (.long l2), none, some (.long (hJ h (hR h l0 3) 1)), none, some (.int 0), none, none, none, none, none, none] [] h Z)
    (e9 : (¬ x1 ≤ l4) → Ev G m_X5_contains [.long l2, .int l4] h 0 0 (Ret (some (.int x2)) h))
    (k10 : (¬ x1 ≤ l4) → (x2 = 0) → RR G nc ns m_X3_lengthen 11 [some (.ref l0), some (.int l1), some (.long l2), none, some (.int (l4 + 1)), none, none, none, none, none, none, none, none] [] h Z)
    (c11 : (hR h l0 5) ≠ 0)
    (c12 : hK h (hR h l0 5) = 2)
    (c13 : (¬ x1 ≤ l4) → (¬ x2 = 0) → vp_in l1 (hL h (hR h l0 5)))
    (k14 : (¬ x1 ≤ l4) → (¬ x2 = 0) → RR G nc ns m_X3_lengthen 11 [some (.ref l0), some (.int (l1 + 1)), some (.long l2), none, some (.int (l4 + 1)), none, none, none, none, none, none, none, none] [] (sI h (hR h l0 5) (Int32.toNatClampNeg l1) l4) Z) :
    RR G nc ns m_X3_lengthen 11 [some (.ref l0), some (.int l1), some (.long l2), none, some (.int l4), none, none, none, none, none, none, none, none] [] h Z := by
  refine r_iload dX3_lengthen_11 rfl ?_
  refine r_aload_n dX3_lengthen_13 rfl ?_
  refine r_getR (c := 3) (k := 0) dX3_lengthen_14 rfl rfl (by decide) fl_RX3_9 (c1) rfl (c2) ?_
  refine r_iconst (v := 0) dX3_lengthen_17 (by decide) ?_
  refine r_callV1 (c := 1) (mc := 0) (ms := 0) dX3_lengthen_18 ck_X1_sizeOf iv_X1_sizeOf sl_X1_sizeOf lk_RX3_62 rfl rfl (c4) (by decide) (by decide) (As := [.int 0]) rfl rfl (Nat.le_of_ble_eq_true rfl) (Or.inl rfl) (Or.inl rfl) (e3) ?_
  refine r_icmp_ge 50 dX3_lengthen_21 (by decide) (fun q1 => ?_) (fun q1 => ?_)
  · refine r_aload_n dX3_lengthen_50 rfl ?_
    refine r_getR (c := 3) (k := 3) dX3_lengthen_51 rfl rfl (by decide) fl_RX3_30 (c1) rfl (c5) ?_
    refine r_iconst (v := 1) dX3_lengthen_54 (by decide) ?_
    refine r_laloadJ 1 dX3_lengthen_55 (c6) (c7 q1) (by decide) ?_
    refine r_lstoreL [some (.ref l0), some (.int l1), some (.long l2), none, some (.long (hJ h (hR h l0 3) 1)), none, none, none, none, none, none, none, none] dX3_lengthen_56 (by decide) rfl ?_
    refine r_iconst (v := 0) dX3_lengthen_58 (by decide) ?_
    refine r_istoreL [some (.ref l0), some (.int l1), some (.long l2), none, some (.long (hJ h (hR h l0 3) 1)), none, some (.int 0), none, none, none, none, none, none] dX3_lengthen_59 (by decide) rfl ?_
    exact k8 q1
  · refine r_lload_n dX3_lengthen_24 rfl ?_
    refine r_iload dX3_lengthen_25 rfl ?_
    refine r_callSN1 (mc := 0) (ms := 0) dX3_lengthen_27 ck_X5_contains sv_X5_contains lk_RX3_96 (by decide) (by decide) (As := [.long l2, .int l4]) rfl rfl (Nat.le_of_ble_eq_true rfl) (Or.inl rfl) (Or.inl rfl) (e9 q1) ?_
    refine r_if_eq 44 dX3_lengthen_30 (by decide) (fun q2 => ?_) (fun q2 => ?_)
    · refine r_iincL (v := l4 + 1) [some (.ref l0), some (.int l1), some (.long l2), none, some (.int (l4 + 1)), none, none, none, none, none, none, none, none] dX3_lengthen_44 rfl (by decide) rfl rfl ?_
      refine r_goto (tgt := 11) dX3_lengthen_47 (by decide) ?_
      exact k10 q1 q2
    · refine r_aload_n dX3_lengthen_33 rfl ?_
      refine r_getR (c := 3) (k := 5) dX3_lengthen_34 rfl rfl (by decide) fl_RX3_38 (c1) rfl (c11) ?_
      refine r_iload_n dX3_lengthen_37 rfl ?_
      refine r_iincL (v := l1 + 1) [some (.ref l0), some (.int (l1 + 1)), some (.long l2), none, some (.int l4), none, none, none, none, none, none, none, none] dX3_lengthen_38 rfl (by decide) rfl rfl ?_
      refine r_iload dX3_lengthen_41 rfl ?_
      refine r_iastoreJ (Int32.toNatClampNeg l1) dX3_lengthen_43 (c12) (c13 q1 q2) rfl ?_
      refine r_iincL (v := l4 + 1) [some (.ref l0), some (.int (l1 + 1)), some (.long l2), none, some (.int (l4 + 1)), none, none, none, none, none, none, none, none] dX3_lengthen_44 rfl (by decide) rfl rfl ?_
      refine r_goto (tgt := 11) dX3_lengthen_47 (by decide) ?_
      exact k14 q1 q2

set_option maxRecDepth 20000 in
set_option maxHeartbeats 2000000 in
theorem s_X3_lengthen_61 {G : GG} {nc ns : Nat} {h : PH} {Z : Option Value → PH → Prop} {l0 : Nat} {l1 : Int32} {l2 : Int64} {l4 : Int64} {l6 : Int32} {x1 : Int64} {x2 : Int32}
    (k1 : (l1 ≤ l6) → Z (some (.int 0)) h)
    (c2 : hK h l0 = 13)
    (c3 : (hR h l0 5) ≠ 0)
    (c4 : hK h (hR h l0 5) = 2)
    (c5 : (¬ l1 ≤ l6) → vp_in l6 (hL h (hR h l0 5)))
    (c6 : (hR h l0 0) ≠ 0)
    (e7 : (¬ l1 ≤ l6) → Ev G m_X1_across [.ref (hR h l0 0), .int 0, .int (hI h (hR h l0 5) (Int32.toNatClampNeg l6))] h 0 0 (Ret (some (.long x1)) h))
    (c8 : hK h (hR h l0 0) = 11)
    (e9 : (¬ l1 ≤ l6) → Ev G m_J13_bitCount_95d88 [.long (x1 &&& l4)] h 0 0 (Ret (some (.int x2)) h))
    (k10 : (¬ l1 ≤ l6) → RR G nc ns m_X3_lengthen 109 [some (.ref l0), some (.int l1), some (.long l2), none, some (.long (l4 &&& ((x1 &&& l4) ^^^ (-1)))), none, some (.int l6), some (.int (hI h (hR h l0 5) (Int32.toNatClampNeg l6))), some (.long (x1 &&& l4)), none, some (.int x2), none, none] [] h Z) :
    RR G nc ns m_X3_lengthen 61 [some (.ref l0), some (.int l1), some (.long l2), none, some (.long l4), none, some (.int l6), none, none, none, none, none, none] [] h Z := by
  refine r_iload dX3_lengthen_61 rfl ?_
  refine r_iload_n dX3_lengthen_63 rfl ?_
  refine r_icmp_ge 197 dX3_lengthen_64 (by decide) (fun q1 => ?_) (fun q1 => ?_)
  · refine r_iconst (v := 0) dX3_lengthen_197 (by decide) ?_
    exact r_zreturn dX3_lengthen_198 rfl (by decide) (k1 q1)
  · refine r_aload_n dX3_lengthen_67 rfl ?_
    refine r_getR (c := 3) (k := 5) dX3_lengthen_68 rfl rfl (by decide) fl_RX3_38 (c2) rfl (c3) ?_
    refine r_iload dX3_lengthen_71 rfl ?_
    refine r_ialoadJ (Int32.toNatClampNeg l6) dX3_lengthen_73 (c4) (c5 q1) rfl ?_
    refine r_istoreL [some (.ref l0), some (.int l1), some (.long l2), none, some (.long l4), none, some (.int l6), some (.int (hI h (hR h l0 5) (Int32.toNatClampNeg l6))), none, none, none, none, none] dX3_lengthen_74 (by decide) rfl ?_
    refine r_aload_n dX3_lengthen_76 rfl ?_
    refine r_getR (c := 3) (k := 0) dX3_lengthen_77 rfl rfl (by decide) fl_RX3_9 (c2) rfl (c6) ?_
    refine r_iconst (v := 0) dX3_lengthen_80 (by decide) ?_
    refine r_iload dX3_lengthen_81 rfl ?_
    refine r_callV1 (c := 1) (mc := 0) (ms := 0) dX3_lengthen_83 ck_X1_across iv_X1_across sl_X1_across lk_RX3_115 rfl rfl (c8) (by decide) (by decide) (As := [.int 0, .int (hI h (hR h l0 5) (Int32.toNatClampNeg l6))]) rfl rfl (Nat.le_of_ble_eq_true rfl) (Or.inl rfl) (Or.inl rfl) (e7 q1) ?_
    refine r_lload dX3_lengthen_86 rfl ?_
    refine r_land dX3_lengthen_88 ?_
    refine r_lstoreL [some (.ref l0), some (.int l1), some (.long l2), none, some (.long l4), none, some (.int l6), some (.int (hI h (hR h l0 5) (Int32.toNatClampNeg l6))), some (.long (x1 &&& l4)), none, none, none, none] dX3_lengthen_89 (by decide) rfl ?_
    refine r_lload dX3_lengthen_91 rfl ?_
    refine r_lload dX3_lengthen_93 rfl ?_
    refine r_ldc2 (v := (-1)) dX3_lengthen_95 cn_RX3_110 ?_
    refine r_lxor dX3_lengthen_98 ?_
    refine r_land dX3_lengthen_99 ?_
    refine r_lstoreL [some (.ref l0), some (.int l1), some (.long l2), none, some (.long (l4 &&& ((x1 &&& l4) ^^^ (-1)))), none, some (.int l6), some (.int (hI h (hR h l0 5) (Int32.toNatClampNeg l6))), some (.long (x1 &&& l4)), none, none, none, none] dX3_lengthen_100 (by decide) rfl ?_
    refine r_lload dX3_lengthen_102 rfl ?_
    refine r_callS1 (mc := 0) (ms := 0) dX3_lengthen_104 ck_J13_bitCount_95d88 sv_J13_bitCount_95d88 lk_RX3_87 (by decide) (by decide) (As := [.long (x1 &&& l4)]) rfl rfl (Nat.le_of_ble_eq_true rfl) (Or.inl rfl) (Or.inl rfl) (e9 q1) ?_
    refine r_istoreL [some (.ref l0), some (.int l1), some (.long l2), none, some (.long (l4 &&& ((x1 &&& l4) ^^^ (-1)))), none, some (.int l6), some (.int (hI h (hR h l0 5) (Int32.toNatClampNeg l6))), some (.long (x1 &&& l4)), none, some (.int x2), none, none] dX3_lengthen_107 (by decide) rfl ?_
    exact k10 q1

set_option maxRecDepth 20000 in
set_option maxHeartbeats 2000000 in
theorem s_X3_lengthen_109 {G : GG} {nc ns : Nat} {h : PH} {Z : Option Value → PH → Prop} {l0 : Nat} {l1 : Int32} {l2 : Int64} {l4 : Int64} {l6 : Int32} {l7 : Int32} {l8 : Int64} {l10 : Int32} {x1 : Int32} {P2 : PH → Prop}
    (k1 : (l10 ≤ 0) → RR G nc ns m_X3_lengthen 61 [some (.ref l0), some (.int l1), some (.long l2), none, some (.long l4), none, some (.int (l6 + 1)), none, none, none, none, none, none] [] h Z)
    (e2 : (¬ l10 ≤ 0) → Ev G m_X5_lowest [.long l8] h 0 0 (Ret (some (.int x1)) h))
    (c3 : hK h l0 = 13)
    (c4 : (hR h l0 6) ≠ 0)
    (c5 : hK h (hR h l0 6) = 2)
    (c6 : (¬ l10 ≤ 0) → vp_in x1 (hL h (hR h l0 6)))
    (c7 : (hR h l0 1) ≠ 0)
    (c8 : (hK h (hR h l0 1) = 5 ∨ hK h (hR h l0 1) = 6))
    (c9 : (¬ l10 ≤ 0) → vp_in 1 (hL h (hR h l0 1)))
    (c10 : (hR h (hR h l0 1) 1) ≠ 0)
    (c11 : hK h (hR h (hR h l0 1) 1) = 2)
    (c12 : (¬ l10 ≤ 0) → vp_in x1 (hL h (hR h (hR h l0 1) 1)))
    (c13 : (hR h l0 5) ≠ 0)
    (c14 : ((ak (hK h (hR h l0 5))).isSome = true ∨ hK h (hR h l0 5) = 1))
    (k15 : (¬ l10 ≤ 0) → (¬ (hI (sI h (hR h l0 6) (Int32.toNatClampNeg x1) l7) (hR h (hR h l0 1) 1) (Int32.toNatClampNeg x1)) = (-3)) → ((nI (hL h (hR h l0 5))) ≤ l1) → RR G nc ns m_X3_lengthen 109 [some (.ref l0), some (.int l1), some (.long l2), none, some (.long l4), none, some (.int l6), some (.int l7), some (.long (l8 &&& (l8 - 1))), none, some (.int (l10 + (-1))), none, none] [] (sI h (hR h l0 6) (Int32.toNatClampNeg x1) l7) Z)
    (c16 : hK h (hR h l0 5) = 2)
    (c17 : (¬ l10 ≤ 0) → (¬ (hI (sI h (hR h l0 6) (Int32.toNatClampNeg x1) l7) (hR h (hR h l0 1) 1) (Int32.toNatClampNeg x1)) = (-3)) → (¬ (nI (hL h (hR h l0 5))) ≤ l1) → vp_in l1 (hL h (hR h l0 5)))
    (k18 : (¬ l10 ≤ 0) → (¬ (hI (sI h (hR h l0 6) (Int32.toNatClampNeg x1) l7) (hR h (hR h l0 1) 1) (Int32.toNatClampNeg x1)) = (-3)) → (¬ (nI (hL h (hR h l0 5))) ≤ l1) → RR G nc ns m_X3_lengthen 109 [some (.ref l0), some (.int (l1 + 1)), some (.long l2), none, some (.long l4), none, some (.int l6), some (.int l7), some (.long (l8 &&& (l8 - 1))), none, some (.int (l10 + (-1))), none, none] [] (sI (sI h (hR h l0 6) (Int32.toNatClampNeg x1) l7) (hR h l0 5) (Int32.toNatClampNeg l1) (hI (sI h (hR h l0 6) (Int32.toNatClampNeg x1) l7) (hR h (hR h l0 1) 1) (Int32.toNatClampNeg x1))) Z)
    (e19 : (¬ l10 ≤ 0) → ((hI (sI h (hR h l0 6) (Int32.toNatClampNeg x1) l7) (hR h (hR h l0 1) 1) (Int32.toNatClampNeg x1)) = (-3)) → Ev G m_X3_pairAlongPath [.ref l0, .int x1] (sI h (hR h l0 6) (Int32.toNatClampNeg x1) l7) 0 0 (RV P2))
    (k20 : (¬ l10 ≤ 0) → ((hI (sI h (hR h l0 6) (Int32.toNatClampNeg x1) l7) (hR h (hR h l0 1) 1) (Int32.toNatClampNeg x1)) = (-3)) → ∀ (h2 : PH), P2 h2 → hN h2 = (hN h) → hS h2 = (hS h) → RR G nc ns m_X3_lengthen 163 [some (.ref l0), some (.int l1), some (.long l2), none, some (.long l4), none, some (.int l6), some (.int l7), some (.long (l8 &&& (l8 - 1))), none, some (.int l10), some (.int x1), some (.int (hI (sI h (hR h l0 6) (Int32.toNatClampNeg x1) l7) (hR h (hR h l0 1) 1) (Int32.toNatClampNeg x1)))] [] h2 Z) :
    RR G nc ns m_X3_lengthen 109 [some (.ref l0), some (.int l1), some (.long l2), none, some (.long l4), none, some (.int l6), some (.int l7), some (.long l8), none, some (.int l10), none, none] [] h Z := by
  refine r_iload dX3_lengthen_109 rfl ?_
  refine r_if_le 191 dX3_lengthen_111 (by decide) (fun q1 => ?_) (fun q1 => ?_)
  · refine r_iincL (v := l6 + 1) [some (.ref l0), some (.int l1), some (.long l2), none, some (.long l4), none, some (.int (l6 + 1)), some (.int l7), some (.long l8), none, some (.int l10), none, none] dX3_lengthen_191 rfl (by decide) rfl rfl ?_
    refine r_goto (tgt := 61) dX3_lengthen_194 (by decide) ?_
    exact RR.sub (k1 q1) (And.intro rfl (And.intro rfl (And.intro rfl (And.intro rfl (And.intro rfl (trivial))))))
  · refine r_lload dX3_lengthen_114 rfl ?_
    refine r_callSN1 (mc := 0) (ms := 0) dX3_lengthen_116 ck_X5_lowest sv_X5_lowest lk_RX3_93 (by decide) (by decide) (As := [.long l8]) rfl rfl (Nat.le_of_ble_eq_true rfl) (Or.inl rfl) (Or.inl rfl) (e2 q1) ?_
    refine r_istoreL [some (.ref l0), some (.int l1), some (.long l2), none, some (.long l4), none, some (.int l6), some (.int l7), some (.long l8), none, some (.int l10), some (.int x1), none] dX3_lengthen_119 (by decide) rfl ?_
    refine r_lload dX3_lengthen_121 rfl ?_
    refine r_lload dX3_lengthen_123 rfl ?_
    refine r_lconst (v := 1) dX3_lengthen_125 (by decide) ?_
    refine r_lsub dX3_lengthen_126 ?_
    refine r_land dX3_lengthen_127 ?_
    refine r_lstoreL [some (.ref l0), some (.int l1), some (.long l2), none, some (.long l4), none, some (.int l6), some (.int l7), some (.long (l8 &&& (l8 - 1))), none, some (.int l10), some (.int x1), none] dX3_lengthen_128 (by decide) rfl ?_
    refine r_aload_n dX3_lengthen_130 rfl ?_
    refine r_getR (c := 3) (k := 6) dX3_lengthen_131 rfl rfl (by decide) fl_RX3_42 (c3) rfl (c4) ?_
    refine r_iload dX3_lengthen_134 rfl ?_
    refine r_iload dX3_lengthen_136 rfl ?_
    refine r_iastoreJ (Int32.toNatClampNeg x1) dX3_lengthen_138 (c5) (c6 q1) rfl ?_
    refine r_aload_n dX3_lengthen_139 rfl ?_
    refine r_getR (c := 3) (k := 1) dX3_lengthen_140 rfl rfl (by decide) fl_RX3_23 (c3) rfl (c7) ?_
    refine r_iconst (v := 1) dX3_lengthen_143 (by decide) ?_
    refine r_aaloadJ 1 dX3_lengthen_144 (c8) (c9 q1) (by decide) (c10) ?_
    refine r_iload dX3_lengthen_145 rfl ?_
    refine r_ialoadJ (Int32.toNatClampNeg x1) dX3_lengthen_147 (c11) (c12 q1) rfl ?_
    refine r_istoreL [some (.ref l0), some (.int l1), some (.long l2), none, some (.long l4), none, some (.int l6), some (.int l7), some (.long (l8 &&& (l8 - 1))), none, some (.int l10), some (.int x1), some (.int (hI (sI h (hR h l0 6) (Int32.toNatClampNeg x1) l7) (hR h (hR h l0 1) 1) (Int32.toNatClampNeg x1)))] dX3_lengthen_148 (by decide) rfl ?_
    refine r_iload dX3_lengthen_150 rfl ?_
    refine r_bipush (v := (-3)) dX3_lengthen_152 (by decide) ?_
    refine r_icmp_ne 165 dX3_lengthen_154 (by decide) (fun q2 => ?_) (fun q2 => ?_)
    · refine r_iload_n dX3_lengthen_165 rfl ?_
      refine r_aload_n dX3_lengthen_166 rfl ?_
      refine r_getR (c := 3) (k := 5) dX3_lengthen_167 rfl rfl (by decide) fl_RX3_38 (c3) rfl (c13) ?_
      refine r_alen dX3_lengthen_170 (c14) ?_
      refine r_icmp_ge 185 dX3_lengthen_171 (by decide) (fun q3 => ?_) (fun q3 => ?_)
      · refine r_iincL (v := l10 + (-1)) [some (.ref l0), some (.int l1), some (.long l2), none, some (.long l4), none, some (.int l6), some (.int l7), some (.long (l8 &&& (l8 - 1))), none, some (.int (l10 + (-1))), some (.int x1), some (.int (hI (sI h (hR h l0 6) (Int32.toNatClampNeg x1) l7) (hR h (hR h l0 1) 1) (Int32.toNatClampNeg x1)))] dX3_lengthen_185 rfl (by decide) rfl rfl ?_
        refine r_goto (tgt := 109) dX3_lengthen_188 (by decide) ?_
        exact RR.sub (k15 q1 q2 q3) (And.intro rfl (And.intro rfl (And.intro rfl (And.intro rfl (And.intro rfl (And.intro rfl (And.intro rfl (And.intro rfl (trivial)))))))))
      · refine r_aload_n dX3_lengthen_174 rfl ?_
        refine r_getR (c := 3) (k := 5) dX3_lengthen_175 rfl rfl (by decide) fl_RX3_38 (c3) rfl (c13) ?_
        refine r_iload_n dX3_lengthen_178 rfl ?_
        refine r_iincL (v := l1 + 1) [some (.ref l0), some (.int (l1 + 1)), some (.long l2), none, some (.long l4), none, some (.int l6), some (.int l7), some (.long (l8 &&& (l8 - 1))), none, some (.int l10), some (.int x1), some (.int (hI (sI h (hR h l0 6) (Int32.toNatClampNeg x1) l7) (hR h (hR h l0 1) 1) (Int32.toNatClampNeg x1)))] dX3_lengthen_179 rfl (by decide) rfl rfl ?_
        refine r_iload dX3_lengthen_182 rfl ?_
        refine r_iastoreJ (Int32.toNatClampNeg l1) dX3_lengthen_184 (c16) (c17 q1 q2 q3) rfl ?_
        refine r_iincL (v := l10 + (-1)) [some (.ref l0), some (.int (l1 + 1)), some (.long l2), none, some (.long l4), none, some (.int l6), some (.int l7), some (.long (l8 &&& (l8 - 1))), none, some (.int (l10 + (-1))), some (.int x1), some (.int (hI (sI h (hR h l0 6) (Int32.toNatClampNeg x1) l7) (hR h (hR h l0 1) 1) (Int32.toNatClampNeg x1)))] dX3_lengthen_185 rfl (by decide) rfl rfl ?_
        refine r_goto (tgt := 109) dX3_lengthen_188 (by decide) ?_
        exact RR.sub (k18 q1 q2 q3) (And.intro rfl (And.intro rfl (And.intro rfl (And.intro rfl (And.intro rfl (And.intro rfl (And.intro rfl (And.intro rfl (trivial)))))))))
    · refine r_aload_n dX3_lengthen_157 rfl ?_
      refine r_iload dX3_lengthen_158 rfl ?_
      refine r_callV (c := 3) (mc := 0) (ms := 0) dX3_lengthen_160 ck_X3_pairAlongPath iv_X3_pairAlongPath sl_X3_pairAlongPath lk_RX3_119 rfl rfl (c3) (by decide) (by decide) (As := [.int x1]) rfl rfl (Nat.le_of_ble_eq_true rfl) (Or.inl rfl) (Or.inl rfl) (e19 q1 q2) ?_
      rintro v2 h2 ⟨rfl, z2⟩ n2 t2
      exact k20 q1 q2 h2 z2 n2 t2

set_option maxRecDepth 20000 in
set_option maxHeartbeats 2000000 in
theorem s_X3_lengthen_163 {G : GG} {nc ns : Nat} {h : PH} {Z : Option Value → PH → Prop} {l0 : Nat} {l1 : Int32} {l2 : Int64} {l4 : Int64} {l6 : Int32} {l7 : Int32} {l8 : Int64} {l10 : Int32} {l11 : Int32} {l12 : Int32}
    (k1 : Z (some (.int 1)) h) :
    RR G nc ns m_X3_lengthen 163 [some (.ref l0), some (.int l1), some (.long l2), none, some (.long l4), none, some (.int l6), some (.int l7), some (.long l8), none, some (.int l10), some (.int l11), some (.int l12)] [] h Z := by
  refine r_iconst (v := 1) dX3_lengthen_163 (by decide) ?_
  exact r_zreturn dX3_lengthen_164 rfl (by decide) (k1)

set_option maxRecDepth 20000 in
set_option maxHeartbeats 2000000 in
theorem s_X3_pairAlongPath_0 {G : GG} {nc ns : Nat} {h : PH} {Z : Option Value → PH → Prop} {l0 : Nat} {l1 : Int32}
    (k1 : RR G nc ns m_X3_pairAlongPath 4 [some (.ref l0), some (.int l1), some (.int l1), some (.int 0), none, none] [] h Z) :
    RR G nc ns m_X3_pairAlongPath 0 [some (.ref l0), some (.int l1), none, none, none, none] [] h Z := by
  refine r_iload_n dX3_pairAlongPath_0 rfl ?_
  refine r_istore_nL [some (.ref l0), some (.int l1), some (.int l1), none, none, none] dX3_pairAlongPath_1 (by decide) rfl ?_
  refine r_iconst (v := 0) dX3_pairAlongPath_2 (by decide) ?_
  refine r_istore_nL [some (.ref l0), some (.int l1), some (.int l1), some (.int 0), none, none] dX3_pairAlongPath_3 (by decide) rfl ?_
  exact k1

set_option maxRecDepth 20000 in
set_option maxHeartbeats 2000000 in
theorem s_X3_pairAlongPath_4 {G : GG} {nc ns : Nat} {h : PH} {Z : Option Value → PH → Prop} {l0 : Nat} {l1 : Int32} {l2 : Int32} {l3 : Int32} {x1 : Int32} {P2 : PH → Prop}
    (c1 : hK h l0 = 13)
    (c2 : (hR h l0 0) ≠ 0)
    (e3 : Ev G m_X1_most [.ref (hR h l0 0)] h 0 0 (Ret (some (.int x1)) h))
    (c4 : hK h (hR h l0 0) = 11)
    (k5 : (x1 ≤ l3) → Z none h)
    (k6 : (¬ x1 ≤ l3) → (l2 = (-3)) → Z none h)
    (c7 : (hR h l0 6) ≠ 0)
    (c8 : hK h (hR h l0 6) = 2)
    (c9 : (¬ x1 ≤ l3) → (¬ l2 = (-3)) → vp_in l2 (hL h (hR h l0 6)))
    (c10 : (hR h l0 1) ≠ 0)
    (c11 : (hK h (hR h l0 1) = 5 ∨ hK h (hR h l0 1) = 6))
    (c12 : (¬ x1 ≤ l3) → (¬ l2 = (-3)) → vp_in 0 (hL h (hR h l0 1)))
    (c13 : (hR h (hR h l0 1) 0) ≠ 0)
    (c14 : hK h (hR h (hR h l0 1) 0) = 2)
    (c15 : (¬ x1 ≤ l3) → (¬ l2 = (-3)) → vp_in (hI h (hR h l0 6) (Int32.toNatClampNeg l2)) (hL h (hR h (hR h l0 1) 0)))
    (e16 : (¬ x1 ≤ l3) → (¬ l2 = (-3)) → Ev G m_X3_pair [.ref l0, .int (hI h (hR h l0 6) (Int32.toNatClampNeg l2)), .int l2] h 0 0 (RV P2))
    (k17 : (¬ x1 ≤ l3) → (¬ l2 = (-3)) → ∀ (h2 : PH), P2 h2 → hN h2 = (hN h) → hS h2 = (hS h) → RR G nc ns m_X3_pairAlongPath 47 [some (.ref l0), some (.int l1), some (.int l2), some (.int l3), some (.int (hI h (hR h l0 6) (Int32.toNatClampNeg l2))), some (.int (hI h (hR h (hR h l0 1) 0) (Int32.toNatClampNeg (hI h (hR h l0 6) (Int32.toNatClampNeg l2)))))] [] h2 Z) :
    RR G nc ns m_X3_pairAlongPath 4 [some (.ref l0), some (.int l1), some (.int l2), some (.int l3), none, none] [] h Z := by
  refine r_iload_n dX3_pairAlongPath_4 rfl ?_
  refine r_aload_n dX3_pairAlongPath_5 rfl ?_
  refine r_getR (c := 3) (k := 0) dX3_pairAlongPath_6 rfl rfl (by decide) fl_RX3_9 (c1) rfl (c2) ?_
  refine r_callV1 (c := 1) (mc := 0) (ms := 0) dX3_pairAlongPath_9 ck_X1_most iv_X1_most sl_X1_most lk_RX3_15 rfl rfl (c4) (by decide) (by decide) (As := []) rfl rfl (Nat.le_of_ble_eq_true rfl) (Or.inl rfl) (Or.inl rfl) (e3) ?_
  refine r_icmp_ge 56 dX3_pairAlongPath_12 (by decide) (fun q1 => ?_) (fun q1 => ?_)
  · exact r_return dX3_pairAlongPath_56 rfl (k5 q1)
  · refine r_iload_n dX3_pairAlongPath_15 rfl ?_
    refine r_bipush (v := (-3)) dX3_pairAlongPath_16 (by decide) ?_
    refine r_icmp_eq 56 dX3_pairAlongPath_18 (by decide) (fun q2 => ?_) (fun q2 => ?_)
    · exact r_return dX3_pairAlongPath_56 rfl (k6 q1 q2)
    · refine r_aload_n dX3_pairAlongPath_21 rfl ?_
      refine r_getR (c := 3) (k := 6) dX3_pairAlongPath_22 rfl rfl (by decide) fl_RX3_42 (c1) rfl (c7) ?_
      refine r_iload_n dX3_pairAlongPath_25 rfl ?_
      refine r_ialoadJ (Int32.toNatClampNeg l2) dX3_pairAlongPath_26 (c8) (c9 q1 q2) rfl ?_
      refine r_istoreL [some (.ref l0), some (.int l1), some (.int l2), some (.int l3), some (.int (hI h (hR h l0 6) (Int32.toNatClampNeg l2))), none] dX3_pairAlongPath_27 (by decide) rfl ?_
      refine r_aload_n dX3_pairAlongPath_29 rfl ?_
      refine r_getR (c := 3) (k := 1) dX3_pairAlongPath_30 rfl rfl (by decide) fl_RX3_23 (c1) rfl (c10) ?_
      refine r_iconst (v := 0) dX3_pairAlongPath_33 (by decide) ?_
      refine r_aaloadJ 0 dX3_pairAlongPath_34 (c11) (c12 q1 q2) (by decide) (c13) ?_
      refine r_iload dX3_pairAlongPath_35 rfl ?_
      refine r_ialoadJ (Int32.toNatClampNeg (hI h (hR h l0 6) (Int32.toNatClampNeg l2))) dX3_pairAlongPath_37 (c14) (c15 q1 q2) rfl ?_
      refine r_istoreL [some (.ref l0), some (.int l1), some (.int l2), some (.int l3), some (.int (hI h (hR h l0 6) (Int32.toNatClampNeg l2))), some (.int (hI h (hR h (hR h l0 1) 0) (Int32.toNatClampNeg (hI h (hR h l0 6) (Int32.toNatClampNeg l2)))))] dX3_pairAlongPath_38 (by decide) rfl ?_
      refine r_aload_n dX3_pairAlongPath_40 rfl ?_
      refine r_iload dX3_pairAlongPath_41 rfl ?_
      refine r_iload_n dX3_pairAlongPath_43 rfl ?_
      refine r_callV (c := 3) (mc := 0) (ms := 0) dX3_pairAlongPath_44 ck_X3_pair iv_X3_pair sl_X3_pair lk_RX3_123 rfl rfl (c1) (by decide) (by decide) (As := [.int (hI h (hR h l0 6) (Int32.toNatClampNeg l2)), .int l2]) rfl rfl (Nat.le_of_ble_eq_true rfl) (Or.inl rfl) (Or.inl rfl) (e16 q1 q2) ?_
      rintro v2 h2 ⟨rfl, z2⟩ n2 t2
      exact k17 q1 q2 h2 z2 n2 t2

set_option maxRecDepth 20000 in
set_option maxHeartbeats 2000000 in
theorem s_X3_pairAlongPath_47 {G : GG} {nc ns : Nat} {h : PH} {Z : Option Value → PH → Prop} {l0 : Nat} {l1 : Int32} {l2 : Int32} {l3 : Int32} {l4 : Int32} {l5 : Int32}
    (k1 : RR G nc ns m_X3_pairAlongPath 4 [some (.ref l0), some (.int l1), some (.int l5), some (.int (l3 + 1)), none, none] [] h Z) :
    RR G nc ns m_X3_pairAlongPath 47 [some (.ref l0), some (.int l1), some (.int l2), some (.int l3), some (.int l4), some (.int l5)] [] h Z := by
  refine r_iload dX3_pairAlongPath_47 rfl ?_
  refine r_istore_nL [some (.ref l0), some (.int l1), some (.int l5), some (.int l3), some (.int l4), some (.int l5)] dX3_pairAlongPath_49 (by decide) rfl ?_
  refine r_iincL (v := l3 + 1) [some (.ref l0), some (.int l1), some (.int l5), some (.int (l3 + 1)), some (.int l4), some (.int l5)] dX3_pairAlongPath_50 rfl (by decide) rfl rfl ?_
  refine r_goto (tgt := 4) dX3_pairAlongPath_53 (by decide) ?_
  exact RR.sub (k1) (And.intro rfl (And.intro rfl (And.intro rfl (And.intro rfl (trivial)))))

set_option maxRecDepth 20000 in
set_option maxHeartbeats 2000000 in
theorem s_X3_reach_0 {G : GG} {nc ns : Nat} {h : PH} {Z : Option Value → PH → Prop} {l0 : Nat} {l1 : Int32} {l2 : Int64}
    (c1 : hK h l0 = 13)
    (c2 : (hR h l0 3) ≠ 0)
    (c3 : hK h (hR h l0 3) = 3)
    (c4 : vp_in (1 - l1) (hL h (hR h l0 3)))
    (k5 : RR G nc ns m_X3_reach 19 [some (.ref l0), some (.int l1), some (.long l2), none, some (.long l2), none, some (.long l2), none, some (.long (hJ h (hR h l0 3) (Int32.toNatClampNeg (1 - l1)))), none, some (.int 0), none, none, none, none] [] h Z) :
    RR G nc ns m_X3_reach 0 [some (.ref l0), some (.int l1), some (.long l2), none, none, none, none, none, none, none, none, none, none, none, none] [] h Z := by
  refine r_lload_n dX3_reach_0 rfl ?_
  refine r_lstoreL [some (.ref l0), some (.int l1), some (.long l2), none, some (.long l2), none, none, none, none, none, none, none, none, none, none] dX3_reach_1 (by decide) rfl ?_
  refine r_lload_n dX3_reach_3 rfl ?_
  refine r_lstoreL [some (.ref l0), some (.int l1), some (.long l2), none, some (.long l2), none, some (.long l2), none, none, none, none, none, none, none, none] dX3_reach_4 (by decide) rfl ?_
  refine r_aload_n dX3_reach_6 rfl ?_
  refine r_getR (c := 3) (k := 3) dX3_reach_7 rfl rfl (by decide) fl_RX3_30 (c1) rfl (c2) ?_
  refine r_iconst (v := 1) dX3_reach_10 (by decide) ?_
  refine r_iload_n dX3_reach_11 rfl ?_
  refine r_isub dX3_reach_12 ?_
  refine r_laloadJ (Int32.toNatClampNeg (1 - l1)) dX3_reach_13 (c3) (c4) rfl ?_
  refine r_lstoreL [some (.ref l0), some (.int l1), some (.long l2), none, some (.long l2), none, some (.long l2), none, some (.long (hJ h (hR h l0 3) (Int32.toNatClampNeg (1 - l1)))), none, none, none, none, none, none] dX3_reach_14 (by decide) rfl ?_
  refine r_iconst (v := 0) dX3_reach_16 (by decide) ?_
  refine r_istoreL [some (.ref l0), some (.int l1), some (.long l2), none, some (.long l2), none, some (.long l2), none, some (.long (hJ h (hR h l0 3) (Int32.toNatClampNeg (1 - l1)))), none, some (.int 0), none, none, none, none] dX3_reach_17 (by decide) rfl ?_
  exact k5

set_option maxRecDepth 20000 in
set_option maxHeartbeats 2000000 in
theorem s_X3_reach_19 {G : GG} {nc ns : Nat} {h : PH} {Z : Option Value → PH → Prop} {l0 : Nat} {l1 : Int32} {l2 : Int64} {l4 : Int64} {l6 : Int64} {l8 : Int64} {l10 : Int32} {x1 : Int32} {x2 : Int32} {x3 : Int64} {x4 : Int64}
    (c1 : hK h l0 = 13)
    (c2 : (hR h l0 0) ≠ 0)
    (e3 : Ev G m_X1_most [.ref (hR h l0 0)] h 0 0 (Ret (some (.int x1)) h))
    (c4 : hK h (hR h l0 0) = 11)
    (k5 : (x1 ≤ l10) → Z (some (.long l4)) h)
    (k6 : (¬ x1 ≤ l10) → ((lg_cmp l6 0) = 0) → Z (some (.long l4)) h)
    (e7 : (¬ x1 ≤ l10) → (¬ (lg_cmp l6 0) = 0) → Ev G m_X5_lowest [.long l6] h 0 0 (Ret (some (.int x2)) h))
    (e8 : (¬ x1 ≤ l10) → (¬ (lg_cmp l6 0) = 0) → Ev G m_X1_across [.ref (hR h l0 0), .int l1, .int x2] h 0 0 (Ret (some (.long x3)) h))
    (e9 : (¬ x1 ≤ l10) → (¬ (lg_cmp l6 0) = 0) → Ev G m_X3_matesOf [.ref l0, .int (1 - l1), .long (x3 &&& l8)] h 0 0 (Ret (some (.long x4)) h))
    (k10 : (¬ x1 ≤ l10) → (¬ (lg_cmp l6 0) = 0) → RR G nc ns m_X3_reach 19 [some (.ref l0), some (.int l1), some (.long l2), none, some (.long (l4 ||| (x4 &&& (l4 ^^^ (-1))))), none, some (.long ((l6 &&& (l6 - 1)) ||| (x4 &&& (l4 ^^^ (-1))))), none, some (.long (l8 &&& ((x3 &&& l8) ^^^ (-1)))), none, some (.int (l10 + 1)), none, none, none, none] [] h Z) :
    RR G nc ns m_X3_reach 19 [some (.ref l0), some (.int l1), some (.long l2), none, some (.long l4), none, some (.long l6), none, some (.long l8), none, some (.int l10), none, none, none, none] [] h Z := by
  refine r_iload dX3_reach_19 rfl ?_
  refine r_aload_n dX3_reach_21 rfl ?_
  refine r_getR (c := 3) (k := 0) dX3_reach_22 rfl rfl (by decide) fl_RX3_9 (c1) rfl (c2) ?_
  refine r_callV1 (c := 1) (mc := 0) (ms := 0) dX3_reach_25 ck_X1_most iv_X1_most sl_X1_most lk_RX3_15 rfl rfl (c4) (by decide) (by decide) (As := []) rfl rfl (Nat.le_of_ble_eq_true rfl) (Or.inl rfl) (Or.inl rfl) (e3) ?_
  refine r_icmp_ge 114 dX3_reach_28 (by decide) (fun q1 => ?_) (fun q1 => ?_)
  · refine r_lload dX3_reach_114 rfl ?_
    exact r_lreturn dX3_reach_116 rfl (k5 q1)
  · refine r_lload dX3_reach_31 rfl ?_
    refine r_lconst (v := 0) dX3_reach_33 (by decide) ?_
    refine r_lcmp dX3_reach_34 ?_
    refine r_if_eq 114 dX3_reach_35 (by decide) (fun q2 => ?_) (fun q2 => ?_)
    · refine r_lload dX3_reach_114 rfl ?_
      exact r_lreturn dX3_reach_116 rfl (k6 q1 q2)
    · refine r_aload_n dX3_reach_38 rfl ?_
      refine r_getR (c := 3) (k := 0) dX3_reach_39 rfl rfl (by decide) fl_RX3_9 (c1) rfl (c2) ?_
      refine r_iload_n dX3_reach_42 rfl ?_
      refine r_lload dX3_reach_43 rfl ?_
      refine r_callSN1 (mc := 0) (ms := 0) dX3_reach_45 ck_X5_lowest sv_X5_lowest lk_RX3_93 (by decide) (by decide) (As := [.long l6]) rfl rfl (Nat.le_of_ble_eq_true rfl) (Or.inl rfl) (Or.inl rfl) (e7 q1 q2) ?_
      refine r_callV1 (c := 1) (mc := 0) (ms := 0) dX3_reach_48 ck_X1_across iv_X1_across sl_X1_across lk_RX3_115 rfl rfl (c4) (by decide) (by decide) (As := [.int l1, .int x2]) rfl rfl (Nat.le_of_ble_eq_true rfl) (Or.inl rfl) (Or.inl rfl) (e8 q1 q2) ?_
      refine r_lload dX3_reach_51 rfl ?_
      refine r_land dX3_reach_53 ?_
      refine r_lstoreL [some (.ref l0), some (.int l1), some (.long l2), none, some (.long l4), none, some (.long l6), none, some (.long l8), none, some (.int l10), some (.long (x3 &&& l8)), none, none, none] dX3_reach_54 (by decide) rfl ?_
      refine r_lload dX3_reach_56 rfl ?_
      refine r_lload dX3_reach_58 rfl ?_
      refine r_ldc2 (v := (-1)) dX3_reach_60 cn_RX3_110 ?_
      refine r_lxor dX3_reach_63 ?_
      refine r_land dX3_reach_64 ?_
      refine r_lstoreL [some (.ref l0), some (.int l1), some (.long l2), none, some (.long l4), none, some (.long l6), none, some (.long (l8 &&& ((x3 &&& l8) ^^^ (-1)))), none, some (.int l10), some (.long (x3 &&& l8)), none, none, none] dX3_reach_65 (by decide) rfl ?_
      refine r_lload dX3_reach_67 rfl ?_
      refine r_lload dX3_reach_69 rfl ?_
      refine r_lconst (v := 1) dX3_reach_71 (by decide) ?_
      refine r_lsub dX3_reach_72 ?_
      refine r_land dX3_reach_73 ?_
      refine r_lstoreL [some (.ref l0), some (.int l1), some (.long l2), none, some (.long l4), none, some (.long (l6 &&& (l6 - 1))), none, some (.long (l8 &&& ((x3 &&& l8) ^^^ (-1)))), none, some (.int l10), some (.long (x3 &&& l8)), none, none, none] dX3_reach_74 (by decide) rfl ?_
      refine r_aload_n dX3_reach_76 rfl ?_
      refine r_iconst (v := 1) dX3_reach_77 (by decide) ?_
      refine r_iload_n dX3_reach_78 rfl ?_
      refine r_isub dX3_reach_79 ?_
      refine r_lload dX3_reach_80 rfl ?_
      refine r_callV1 (c := 3) (mc := 0) (ms := 0) dX3_reach_82 ck_X3_matesOf iv_X3_matesOf sl_X3_matesOf lk_RX3_127 rfl rfl (c1) (by decide) (by decide) (As := [.int (1 - l1), .long (x3 &&& l8)]) rfl rfl (Nat.le_of_ble_eq_true rfl) (Or.inl rfl) (Or.inl rfl) (e9 q1 q2) ?_
      refine r_lload dX3_reach_85 rfl ?_
      refine r_ldc2 (v := (-1)) dX3_reach_87 cn_RX3_110 ?_
      refine r_lxor dX3_reach_90 ?_
      refine r_land dX3_reach_91 ?_
      refine r_lstoreL [some (.ref l0), some (.int l1), some (.long l2), none, some (.long l4), none, some (.long (l6 &&& (l6 - 1))), none, some (.long (l8 &&& ((x3 &&& l8) ^^^ (-1)))), none, some (.int l10), some (.long (x3 &&& l8)), none, some (.long (x4 &&& (l4 ^^^ (-1)))), none] dX3_reach_92 (by decide) rfl ?_
      refine r_lload dX3_reach_94 rfl ?_
      refine r_lload dX3_reach_96 rfl ?_
      refine r_lor dX3_reach_98 ?_
      refine r_lstoreL [some (.ref l0), some (.int l1), some (.long l2), none, some (.long (l4 ||| (x4 &&& (l4 ^^^ (-1))))), none, some (.long (l6 &&& (l6 - 1))), none, some (.long (l8 &&& ((x3 &&& l8) ^^^ (-1)))), none, some (.int l10), some (.long (x3 &&& l8)), none, some (.long (x4 &&& (l4 ^^^ (-1)))), none] dX3_reach_99 (by decide) rfl ?_
      refine r_lload dX3_reach_101 rfl ?_
      refine r_lload dX3_reach_103 rfl ?_
      refine r_lor dX3_reach_105 ?_
      refine r_lstoreL [some (.ref l0), some (.int l1), some (.long l2), none, some (.long (l4 ||| (x4 &&& (l4 ^^^ (-1))))), none, some (.long ((l6 &&& (l6 - 1)) ||| (x4 &&& (l4 ^^^ (-1))))), none, some (.long (l8 &&& ((x3 &&& l8) ^^^ (-1)))), none, some (.int l10), some (.long (x3 &&& l8)), none, some (.long (x4 &&& (l4 ^^^ (-1)))), none] dX3_reach_106 (by decide) rfl ?_
      refine r_iincL (v := l10 + 1) [some (.ref l0), some (.int l1), some (.long l2), none, some (.long (l4 ||| (x4 &&& (l4 ^^^ (-1))))), none, some (.long ((l6 &&& (l6 - 1)) ||| (x4 &&& (l4 ^^^ (-1))))), none, some (.long (l8 &&& ((x3 &&& l8) ^^^ (-1)))), none, some (.int (l10 + 1)), some (.long (x3 &&& l8)), none, some (.long (x4 &&& (l4 ^^^ (-1)))), none] dX3_reach_108 rfl (by decide) rfl rfl ?_
      refine r_goto (tgt := 19) dX3_reach_111 (by decide) ?_
      exact RR.sub (k10 q1 q2) (And.intro rfl (And.intro rfl (And.intro rfl (And.intro rfl (And.intro rfl (And.intro rfl (And.intro rfl (trivial))))))))

set_option maxRecDepth 20000 in
set_option maxHeartbeats 2000000 in
theorem s_X3_choicesOf_0 {G : GG} {nc ns : Nat} {h : PH} {Z : Option Value → PH → Prop} {l0 : Nat} {l1 : Int32} {x1 : Int64} {x2 : Int64} {x3 : Int64} {x4 : Int64} {x5 : Int64}
    (c1 : hK h l0 = 13)
    (c2 : (hR h l0 0) ≠ 0)
    (e3 : Ev G m_X1_across [.ref (hR h l0 0), .int 0, .int l1] h 0 0 (Ret (some (.long x1)) h))
    (c4 : hK h (hR h l0 0) = 11)
    (c5 : (hR h l0 3) ≠ 0)
    (c6 : hK h (hR h l0 3) = 3)
    (c7 : vp_in 1 (hL h (hR h l0 3)))
    (c8 : (hR h l0 1) ≠ 0)
    (c9 : (hK h (hR h l0 1) = 5 ∨ hK h (hR h l0 1) = 6))
    (c10 : vp_in 0 (hL h (hR h l0 1)))
    (c11 : (hR h (hR h l0 1) 0) ≠ 0)
    (c12 : hK h (hR h (hR h l0 1) 0) = 2)
    (c13 : vp_in l1 (hL h (hR h (hR h l0 1) 0)))
    (e14 : (¬ (hI h (hR h (hR h l0 1) 0) (Int32.toNatClampNeg l1)) = (-3)) → Ev G m_X3_bare [.ref l0, .int 1] h 0 0 (Ret (some (.long x2)) h))
    (e15 : (¬ (hI h (hR h (hR h l0 1) 0) (Int32.toNatClampNeg l1)) = (-3)) → Ev G m_X3_reach [.ref l0, .int 1, .long (x2 ||| (1 <<< (Int32.toInt64 (hI h (hR h (hR h l0 1) 0) (Int32.toNatClampNeg l1)) &&& 63)))] h 0 0 (Ret (some (.long x3)) h))
    (e16 : (¬ (hI h (hR h (hR h l0 1) 0) (Int32.toNatClampNeg l1)) = (-3)) → Ev G m_X1_neighbours [.ref (hR h l0 0), .int 1, .long x3] h 0 0 (Ret (some (.long x4)) h))
    (e17 : (¬ (hI h (hR h (hR h l0 1) 0) (Int32.toNatClampNeg l1)) = (-3)) → Ev G m_X3_bare [.ref l0, .int 0] h 0 0 (Ret (some (.long x5)) h))
    (k18 : (¬ (hI h (hR h (hR h l0 1) 0) (Int32.toNatClampNeg l1)) = (-3)) → ((lg_cmp (x4 &&& x5) 0) = 0) → Z (some (.long ((x1 &&& (hJ h (hR h l0 3) 1)) &&& x3))) h)
    (k19 : (¬ (hI h (hR h (hR h l0 1) 0) (Int32.toNatClampNeg l1)) = (-3)) → (¬ (lg_cmp (x4 &&& x5) 0) = 0) → Z (some (.long (x1 &&& (hJ h (hR h l0 3) 1)))) h)
    (k20 : ((hI h (hR h (hR h l0 1) 0) (Int32.toNatClampNeg l1)) = (-3)) → Z (some (.long (x1 &&& (hJ h (hR h l0 3) 1)))) h) :
    RR G nc ns m_X3_choicesOf 0 [some (.ref l0), some (.int l1), none, none, none, none, none] [] h Z := by
  refine r_aload_n dX3_choicesOf_0 rfl ?_
  refine r_getR (c := 3) (k := 0) dX3_choicesOf_1 rfl rfl (by decide) fl_RX3_9 (c1) rfl (c2) ?_
  refine r_iconst (v := 0) dX3_choicesOf_4 (by decide) ?_
  refine r_iload_n dX3_choicesOf_5 rfl ?_
  refine r_callV1 (c := 1) (mc := 0) (ms := 0) dX3_choicesOf_6 ck_X1_across iv_X1_across sl_X1_across lk_RX3_115 rfl rfl (c4) (by decide) (by decide) (As := [.int 0, .int l1]) rfl rfl (Nat.le_of_ble_eq_true rfl) (Or.inl rfl) (Or.inl rfl) (e3) ?_
  refine r_aload_n dX3_choicesOf_9 rfl ?_
  refine r_getR (c := 3) (k := 3) dX3_choicesOf_10 rfl rfl (by decide) fl_RX3_30 (c1) rfl (c5) ?_
  refine r_iconst (v := 1) dX3_choicesOf_13 (by decide) ?_
  refine r_laloadJ 1 dX3_choicesOf_14 (c6) (c7) (by decide) ?_
  refine r_land dX3_choicesOf_15 ?_
  refine r_lstore_nL [some (.ref l0), some (.int l1), some (.long (x1 &&& (hJ h (hR h l0 3) 1))), none, none, none, none] dX3_choicesOf_16 (by decide) rfl ?_
  refine r_aload_n dX3_choicesOf_17 rfl ?_
  refine r_getR (c := 3) (k := 1) dX3_choicesOf_18 rfl rfl (by decide) fl_RX3_23 (c1) rfl (c8) ?_
  refine r_iconst (v := 0) dX3_choicesOf_21 (by decide) ?_
  refine r_aaloadJ 0 dX3_choicesOf_22 (c9) (c10) (by decide) (c11) ?_
  refine r_iload_n dX3_choicesOf_23 rfl ?_
  refine r_ialoadJ (Int32.toNatClampNeg l1) dX3_choicesOf_24 (c12) (c13) rfl ?_
  refine r_istoreL [some (.ref l0), some (.int l1), some (.long (x1 &&& (hJ h (hR h l0 3) 1))), none, some (.int (hI h (hR h (hR h l0 1) 0) (Int32.toNatClampNeg l1))), none, none] dX3_choicesOf_25 (by decide) rfl ?_
  refine r_iload dX3_choicesOf_27 rfl ?_
  refine r_bipush (v := (-3)) dX3_choicesOf_29 (by decide) ?_
  refine r_icmp_ne 36 dX3_choicesOf_31 (by decide) (fun q1 => ?_) (fun q1 => ?_)
  · refine r_aload_n dX3_choicesOf_36 rfl ?_
    refine r_iconst (v := 1) dX3_choicesOf_37 (by decide) ?_
    refine r_aload_n dX3_choicesOf_38 rfl ?_
    refine r_iconst (v := 1) dX3_choicesOf_39 (by decide) ?_
    refine r_callV1 (c := 3) (mc := 0) (ms := 0) dX3_choicesOf_40 ck_X3_bare iv_X3_bare sl_X3_bare lk_RX3_112 rfl rfl (c1) (by decide) (by decide) (As := [.int 1]) rfl rfl (Nat.le_of_ble_eq_true rfl) (Or.inl rfl) (Or.inl rfl) (e14 q1) ?_
    refine r_lconst (v := 1) dX3_choicesOf_43 (by decide) ?_
    refine r_iload dX3_choicesOf_44 rfl ?_
    refine r_lshl dX3_choicesOf_46 ?_
    refine r_lor dX3_choicesOf_47 ?_
    refine r_callV1 (c := 3) (mc := 0) (ms := 0) dX3_choicesOf_48 ck_X3_reach iv_X3_reach sl_X3_reach lk_RX3_131 rfl rfl (c1) (by decide) (by decide) (As := [.int 1, .long (x2 ||| (1 <<< (Int32.toInt64 (hI h (hR h (hR h l0 1) 0) (Int32.toNatClampNeg l1)) &&& 63)))]) rfl rfl (Nat.le_of_ble_eq_true rfl) (Or.inl rfl) (Or.inl rfl) (e15 q1) ?_
    refine r_lstoreL [some (.ref l0), some (.int l1), some (.long (x1 &&& (hJ h (hR h l0 3) 1))), none, some (.int (hI h (hR h (hR h l0 1) 0) (Int32.toNatClampNeg l1))), some (.long x3), none] dX3_choicesOf_51 (by decide) rfl ?_
    refine r_aload_n dX3_choicesOf_53 rfl ?_
    refine r_getR (c := 3) (k := 0) dX3_choicesOf_54 rfl rfl (by decide) fl_RX3_9 (c1) rfl (c2) ?_
    refine r_iconst (v := 1) dX3_choicesOf_57 (by decide) ?_
    refine r_lload dX3_choicesOf_58 rfl ?_
    refine r_callV1 (c := 1) (mc := 0) (ms := 0) dX3_choicesOf_60 ck_X1_neighbours iv_X1_neighbours sl_X1_neighbours lk_RX3_134 rfl rfl (c4) (by decide) (by decide) (As := [.int 1, .long x3]) rfl rfl (Nat.le_of_ble_eq_true rfl) (Or.inl rfl) (Or.inl rfl) (e16 q1) ?_
    refine r_aload_n dX3_choicesOf_63 rfl ?_
    refine r_iconst (v := 0) dX3_choicesOf_64 (by decide) ?_
    refine r_callV1 (c := 3) (mc := 0) (ms := 0) dX3_choicesOf_65 ck_X3_bare iv_X3_bare sl_X3_bare lk_RX3_112 rfl rfl (c1) (by decide) (by decide) (As := [.int 0]) rfl rfl (Nat.le_of_ble_eq_true rfl) (Or.inl rfl) (Or.inl rfl) (e17 q1) ?_
    refine r_land dX3_choicesOf_68 ?_
    refine r_lconst (v := 0) dX3_choicesOf_69 (by decide) ?_
    refine r_lcmp dX3_choicesOf_70 ?_
    refine r_if_eq 76 dX3_choicesOf_71 (by decide) (fun q2 => ?_) (fun q2 => ?_)
    · refine r_lload_n dX3_choicesOf_76 rfl ?_
      refine r_lload dX3_choicesOf_77 rfl ?_
      refine r_land dX3_choicesOf_79 ?_
      exact r_lreturn dX3_choicesOf_80 rfl (k18 q1 q2)
    · refine r_lload_n dX3_choicesOf_74 rfl ?_
      exact r_lreturn dX3_choicesOf_75 rfl (k19 q1 q2)
  · refine r_lload_n dX3_choicesOf_34 rfl ?_
    exact r_lreturn dX3_choicesOf_35 rfl (k20 q1)

set_option maxRecDepth 20000 in
set_option maxHeartbeats 2000000 in
theorem s_X3_settle_0 {G : GG} {nc ns : Nat} {h : PH} {Z : Option Value → PH → Prop} {l0 : Nat} {l1 : Int32} {l2 : Int64} {x1 : Int32} {P2 : PH → Prop}
    (c1 : hK h l0 = 13)
    (c2 : (hR h l0 3) ≠ 0)
    (c3 : hK h (hR h l0 3) = 3)
    (c4 : vp_in 0 (hL h (hR h l0 3)))
    (e5 : (¬ (lg_cmp l2 0) = 0) → Ev G m_X5_lowest [.long l2] (sJ h (hR h l0 3) 0 ((hJ h (hR h l0 3) 0) &&& ((1 <<< (Int32.toInt64 l1 &&& 63)) ^^^ (-1)))) 0 0 (Ret (some (.int x1)) (sJ h (hR h l0 3) 0 ((hJ h (hR h l0 3) 0) &&& ((1 <<< (Int32.toInt64 l1 &&& 63)) ^^^ (-1))))))
    (c6 : (¬ (lg_cmp l2 0) = 0) → vp_in 1 (hL h (hR h l0 3)))
    (c7 : (hR h l0 1) ≠ 0)
    (c8 : (hK h (hR h l0 1) = 5 ∨ hK h (hR h l0 1) = 6))
    (c9 : (¬ (lg_cmp l2 0) = 0) → vp_in 0 (hL h (hR h l0 1)))
    (c10 : (hR h (hR h l0 1) 0) ≠ 0)
    (c11 : hK h (hR h (hR h l0 1) 0) = 2)
    (c12 : (¬ (lg_cmp l2 0) = 0) → vp_in l1 (hL h (hR h (hR h l0 1) 0)))
    (k13 : (¬ (lg_cmp l2 0) = 0) → ((hI h (hR h (hR h l0 1) 0) (Int32.toNatClampNeg l1)) = x1) → Z none (sJ (sJ h (hR h l0 3) 0 ((hJ h (hR h l0 3) 0) &&& ((1 <<< (Int32.toInt64 l1 &&& 63)) ^^^ (-1)))) (hR h l0 3) 1 ((hJ (sJ h (hR h l0 3) 0 ((hJ h (hR h l0 3) 0) &&& ((1 <<< (Int32.toInt64 l1 &&& 63)) ^^^ (-1)))) (hR h l0 3) 1) &&& ((1 <<< (Int32.toInt64 x1 &&& 63)) ^^^ (-1)))))
    (e14 : (¬ (lg_cmp l2 0) = 0) → (¬ (hI h (hR h (hR h l0 1) 0) (Int32.toNatClampNeg l1)) = x1) → Ev G m_X3_loosen [.ref l0, .int 0, .int l1] (sJ (sJ h (hR h l0 3) 0 ((hJ h (hR h l0 3) 0) &&& ((1 <<< (Int32.toInt64 l1 &&& 63)) ^^^ (-1)))) (hR h l0 3) 1 ((hJ (sJ h (hR h l0 3) 0 ((hJ h (hR h l0 3) 0) &&& ((1 <<< (Int32.toInt64 l1 &&& 63)) ^^^ (-1)))) (hR h l0 3) 1) &&& ((1 <<< (Int32.toInt64 x1 &&& 63)) ^^^ (-1)))) 0 0 (RV P2))
    (k15 : (¬ (lg_cmp l2 0) = 0) → (¬ (hI h (hR h (hR h l0 1) 0) (Int32.toNatClampNeg l1)) = x1) → ∀ (h2 : PH), P2 h2 → hN h2 = (hN h) → hS h2 = (hS h) → RR G nc ns m_X3_settle 65 [some (.ref l0), some (.int l1), some (.long l2), none, some (.int x1)] [] h2 Z)
    (k16 : ((lg_cmp l2 0) = 0) → Z none (sJ h (hR h l0 3) 0 ((hJ h (hR h l0 3) 0) &&& ((1 <<< (Int32.toInt64 l1 &&& 63)) ^^^ (-1))))) :
    RR G nc ns m_X3_settle 0 [some (.ref l0), some (.int l1), some (.long l2), none, none] [] h Z := by
  refine r_aload_n dX3_settle_0 rfl ?_
  refine r_getR (c := 3) (k := 3) dX3_settle_1 rfl rfl (by decide) fl_RX3_30 (c1) rfl (c2) ?_
  refine r_iconst (v := 0) dX3_settle_4 (by decide) ?_
  refine r_dup2 dX3_settle_5 rfl rfl ?_
  refine r_laloadJ 0 dX3_settle_6 (c3) (c4) (by decide) ?_
  refine r_lconst (v := 1) dX3_settle_7 (by decide) ?_
  refine r_iload_n dX3_settle_8 rfl ?_
  refine r_lshl dX3_settle_9 ?_
  refine r_ldc2 (v := (-1)) dX3_settle_10 cn_RX3_110 ?_
  refine r_lxor dX3_settle_13 ?_
  refine r_land dX3_settle_14 ?_
  refine r_lastoreJ 0 dX3_settle_15 (c3) (c4) (by decide) ?_
  refine r_lload_n dX3_settle_16 rfl ?_
  refine r_lconst (v := 0) dX3_settle_17 (by decide) ?_
  refine r_lcmp dX3_settle_18 ?_
  refine r_if_ne 23 dX3_settle_19 (by decide) (fun q1 => ?_) (fun q1 => ?_)
  · refine r_lload_n dX3_settle_23 rfl ?_
    refine r_callSN1 (mc := 0) (ms := 0) dX3_settle_24 ck_X5_lowest sv_X5_lowest lk_RX3_93 (by decide) (by decide) (As := [.long l2]) rfl rfl (Nat.le_of_ble_eq_true rfl) (Or.inl rfl) (Or.inl rfl) (e5 q1) ?_
    refine r_istoreL [some (.ref l0), some (.int l1), some (.long l2), none, some (.int x1)] dX3_settle_27 (by decide) rfl ?_
    refine r_aload_n dX3_settle_29 rfl ?_
    refine r_getR (c := 3) (k := 3) dX3_settle_30 rfl rfl (by decide) fl_RX3_30 (c1) rfl (c2) ?_
    refine r_iconst (v := 1) dX3_settle_33 (by decide) ?_
    refine r_dup2 dX3_settle_34 rfl rfl ?_
    refine r_laloadJ 1 dX3_settle_35 (c3) (c6 q1) (by decide) ?_
    refine r_lconst (v := 1) dX3_settle_36 (by decide) ?_
    refine r_iload dX3_settle_37 rfl ?_
    refine r_lshl dX3_settle_39 ?_
    refine r_ldc2 (v := (-1)) dX3_settle_40 cn_RX3_110 ?_
    refine r_lxor dX3_settle_43 ?_
    refine r_land dX3_settle_44 ?_
    refine r_lastoreJ 1 dX3_settle_45 (c3) (c6 q1) (by decide) ?_
    refine r_aload_n dX3_settle_46 rfl ?_
    refine r_getR (c := 3) (k := 1) dX3_settle_47 rfl rfl (by decide) fl_RX3_23 (c1) rfl (c7) ?_
    refine r_iconst (v := 0) dX3_settle_50 (by decide) ?_
    refine r_aaloadJ 0 dX3_settle_51 (c8) (c9 q1) (by decide) (c10) ?_
    refine r_iload_n dX3_settle_52 rfl ?_
    refine r_ialoadJ (Int32.toNatClampNeg l1) dX3_settle_53 (c11) (c12 q1) rfl ?_
    refine r_iload dX3_settle_54 rfl ?_
    refine r_icmp_eq 84 dX3_settle_56 (by decide) (fun q2 => ?_) (fun q2 => ?_)
    · exact r_return dX3_settle_84 rfl (k13 q1 q2)
    · refine r_aload_n dX3_settle_59 rfl ?_
      refine r_iconst (v := 0) dX3_settle_60 (by decide) ?_
      refine r_iload_n dX3_settle_61 rfl ?_
      refine r_callV (c := 3) (mc := 0) (ms := 0) dX3_settle_62 ck_X3_loosen iv_X3_loosen sl_X3_loosen lk_RX3_137 rfl rfl (c1) (by decide) (by decide) (As := [.int 0, .int l1]) rfl rfl (Nat.le_of_ble_eq_true rfl) (Or.inl rfl) (Or.inl rfl) (e14 q1 q2) ?_
      rintro v2 h2 ⟨rfl, z2⟩ n2 t2
      exact k15 q1 q2 h2 z2 n2 t2
  · exact r_return dX3_settle_22 rfl (k16 q1)

set_option maxRecDepth 20000 in
set_option maxHeartbeats 2000000 in
theorem s_X3_settle_65 {G : GG} {nc ns : Nat} {h : PH} {Z : Option Value → PH → Prop} {l0 : Nat} {l1 : Int32} {l2 : Int64} {l4 : Int32} {P1 : PH → Prop}
    (e1 : Ev G m_X3_loosen [.ref l0, .int 1, .int l4] h 0 0 (RV P1))
    (c2 : hK h l0 = 13)
    (k3 : ∀ (h1 : PH), P1 h1 → hN h1 = (hN h) → hS h1 = (hS h) → RR G nc ns m_X3_settle 72 [some (.ref l0), some (.int l1), some (.long l2), none, some (.int l4)] [] h1 Z) :
    RR G nc ns m_X3_settle 65 [some (.ref l0), some (.int l1), some (.long l2), none, some (.int l4)] [] h Z := by
  refine r_aload_n dX3_settle_65 rfl ?_
  refine r_iconst (v := 1) dX3_settle_66 (by decide) ?_
  refine r_iload dX3_settle_67 rfl ?_
  refine r_callV (c := 3) (mc := 0) (ms := 0) dX3_settle_69 ck_X3_loosen iv_X3_loosen sl_X3_loosen lk_RX3_137 rfl rfl (c2) (by decide) (by decide) (As := [.int 1, .int l4]) rfl rfl (Nat.le_of_ble_eq_true rfl) (Or.inl rfl) (Or.inl rfl) (e1) ?_
  rintro v1 h1 ⟨rfl, z1⟩ n1 t1
  exact k3 h1 z1 n1 t1

set_option maxRecDepth 20000 in
set_option maxHeartbeats 2000000 in
theorem s_X3_settle_72 {G : GG} {nc ns : Nat} {h : PH} {Z : Option Value → PH → Prop} {l0 : Nat} {l1 : Int32} {l2 : Int64} {l4 : Int32} {P1 : PH → Prop}
    (e1 : Ev G m_X3_pair [.ref l0, .int l1, .int l4] h 0 0 (RV P1))
    (c2 : hK h l0 = 13)
    (k3 : ∀ (h1 : PH), P1 h1 → hN h1 = (hN h) → hS h1 = (hS h) → RR G nc ns m_X3_settle 79 [some (.ref l0), some (.int l1), some (.long l2), none, some (.int l4)] [] h1 Z) :
    RR G nc ns m_X3_settle 72 [some (.ref l0), some (.int l1), some (.long l2), none, some (.int l4)] [] h Z := by
  refine r_aload_n dX3_settle_72 rfl ?_
  refine r_iload_n dX3_settle_73 rfl ?_
  refine r_iload dX3_settle_74 rfl ?_
  refine r_callV (c := 3) (mc := 0) (ms := 0) dX3_settle_76 ck_X3_pair iv_X3_pair sl_X3_pair lk_RX3_123 rfl rfl (c2) (by decide) (by decide) (As := [.int l1, .int l4]) rfl rfl (Nat.le_of_ble_eq_true rfl) (Or.inl rfl) (Or.inl rfl) (e1) ?_
  rintro v1 h1 ⟨rfl, z1⟩ n1 t1
  exact k3 h1 z1 n1 t1

set_option maxRecDepth 20000 in
set_option maxHeartbeats 2000000 in
theorem s_X3_settle_79 {G : GG} {nc ns : Nat} {h : PH} {Z : Option Value → PH → Prop} {l0 : Nat} {l1 : Int32} {l2 : Int64} {l4 : Int32} {P1 : Int32 → PH → Prop}
    (e1 : Ev G m_X3_lengthen [.ref l0] h 0 0 (RI P1))
    (c2 : hK h l0 = 13)
    (k3 : ∀ (x1 : Int32) (h1 : PH), P1 x1 h1 → hN h1 = (hN h) → hS h1 = (hS h) → RR G nc ns m_X3_settle 83 [some (.ref l0), some (.int l1), some (.long l2), none, some (.int l4)] [.int x1] h1 Z) :
    RR G nc ns m_X3_settle 79 [some (.ref l0), some (.int l1), some (.long l2), none, some (.int l4)] [] h Z := by
  refine r_aload_n dX3_settle_79 rfl ?_
  refine r_callV (c := 3) (mc := 0) (ms := 0) dX3_settle_80 ck_X3_lengthen iv_X3_lengthen sl_X3_lengthen lk_RX3_58 rfl rfl (c2) (by decide) (by decide) (As := []) rfl rfl (Nat.le_of_ble_eq_true rfl) (Or.inl rfl) (Or.inl rfl) (e1) ?_
  rintro v1 h1 ⟨x1, rfl, z1⟩ n1 t1
  exact k3 x1 h1 z1 n1 t1

set_option maxRecDepth 20000 in
set_option maxHeartbeats 2000000 in
theorem s_X3_settle_83 {G : GG} {nc ns : Nat} {h : PH} {Z : Option Value → PH → Prop} {l0 : Nat} {l1 : Int32} {l2 : Int64} {l4 : Int32} {s0 : Int32}
    (k1 : Z none h) :
    RR G nc ns m_X3_settle 83 [some (.ref l0), some (.int l1), some (.long l2), none, some (.int l4)] [.int s0] h Z := by
  refine r_pop dX3_settle_83 rfl ?_
  exact r_return dX3_settle_84 rfl (k1)

set_option maxRecDepth 20000 in
set_option maxHeartbeats 2000000 in
theorem s_X3_findParts_0 {G : GG} {nc ns : Nat} {h : PH} {Z : Option Value → PH → Prop} {l0 : Nat} {x1 : Int64} {x2 : Int64} {x3 : Int64} {x4 : Int64} {x5 : Int64} {x6 : Int64}
    (c1 : hK h l0 = 13)
    (c2 : (hR h l0 4) ≠ 0)
    (c3 : (hK h (hR h l0 4) = 5 ∨ hK h (hR h l0 4) = 6))
    (c4 : vp_in 0 (hL h (hR h l0 4)))
    (c5 : (hR h (hR h l0 4) 0) ≠ 0)
    (e6 : Ev G m_X3_bare [.ref l0, .int 0] h 0 0 (Ret (some (.long x1)) h))
    (e7 : Ev G m_X3_reach [.ref l0, .int 0, .long x1] h 0 0 (Ret (some (.long x2)) h))
    (c8 : hK h (hR h (hR h l0 4) 0) = 3)
    (c9 : vp_in 0 (hL h (hR h (hR h l0 4) 0)))
    (c10 : vp_in 1 (hL h (hR h l0 4)))
    (c11 : (hR h (hR h l0 4) 1) ≠ 0)
    (c12 : (hR h l0 0) ≠ 0)
    (e13 : Ev G m_X1_neighbours [.ref (hR h l0 0), .int 0, .long (hJ (sJ h (hR h (hR h l0 4) 0) 0 x2) (hR h (hR h l0 4) 0) 0)] (sJ h (hR h (hR h l0 4) 0) 0 x2) 0 0 (Ret (some (.long x3)) (sJ h (hR h (hR h l0 4) 0) 0 x2)))
    (c14 : hK h (hR h l0 0) = 11)
    (c15 : hK h (hR h (hR h l0 4) 1) = 3)
    (c16 : vp_in 0 (hL h (hR h (hR h l0 4) 1)))
    (e17 : Ev G m_X3_bare [.ref l0, .int 1] (sJ (sJ h (hR h (hR h l0 4) 0) 0 x2) (hR h (hR h l0 4) 1) 0 x3) 0 0 (Ret (some (.long x4)) (sJ (sJ h (hR h (hR h l0 4) 0) 0 x2) (hR h (hR h l0 4) 1) 0 x3)))
    (e18 : Ev G m_X3_reach [.ref l0, .int 1, .long x4] (sJ (sJ h (hR h (hR h l0 4) 0) 0 x2) (hR h (hR h l0 4) 1) 0 x3) 0 0 (Ret (some (.long x5)) (sJ (sJ h (hR h (hR h l0 4) 0) 0 x2) (hR h (hR h l0 4) 1) 0 x3)))
    (c19 : vp_in 2 (hL h (hR h (hR h l0 4) 1)))
    (e20 : Ev G m_X1_neighbours [.ref (hR h l0 0), .int 1, .long (hJ (sJ (sJ (sJ h (hR h (hR h l0 4) 0) 0 x2) (hR h (hR h l0 4) 1) 0 x3) (hR h (hR h l0 4) 1) 2 x5) (hR h (hR h l0 4) 1) 2)] (sJ (sJ (sJ h (hR h (hR h l0 4) 0) 0 x2) (hR h (hR h l0 4) 1) 0 x3) (hR h (hR h l0 4) 1) 2 x5) 0 0 (Ret (some (.long x6)) (sJ (sJ (sJ h (hR h (hR h l0 4) 0) 0 x2) (hR h (hR h l0 4) 1) 0 x3) (hR h (hR h l0 4) 1) 2 x5)))
    (c21 : vp_in 2 (hL h (hR h (hR h l0 4) 0)))
    (k22 : RR G nc ns m_X3_findParts 86 [some (.ref l0), some (.int 0)] [] (sJ (sJ (sJ (sJ h (hR h (hR h l0 4) 0) 0 x2) (hR h (hR h l0 4) 1) 0 x3) (hR h (hR h l0 4) 1) 2 x5) (hR h (hR h l0 4) 0) 2 x6) Z) :
    RR G nc ns m_X3_findParts 0 [some (.ref l0), none] [] h Z := by
  refine r_aload_n dX3_findParts_0 rfl ?_
  refine r_getR (c := 3) (k := 4) dX3_findParts_1 rfl rfl (by decide) fl_RX3_35 (c1) rfl (c2) ?_
  refine r_iconst (v := 0) dX3_findParts_4 (by decide) ?_
  refine r_aaloadJ 0 dX3_findParts_5 (c3) (c4) (by decide) (c5) ?_
  refine r_iconst (v := 0) dX3_findParts_6 (by decide) ?_
  refine r_aload_n dX3_findParts_7 rfl ?_
  refine r_iconst (v := 0) dX3_findParts_8 (by decide) ?_
  refine r_aload_n dX3_findParts_9 rfl ?_
  refine r_iconst (v := 0) dX3_findParts_10 (by decide) ?_
  refine r_callV1 (c := 3) (mc := 0) (ms := 0) dX3_findParts_11 ck_X3_bare iv_X3_bare sl_X3_bare lk_RX3_112 rfl rfl (c1) (by decide) (by decide) (As := [.int 0]) rfl rfl (Nat.le_of_ble_eq_true rfl) (Or.inl rfl) (Or.inl rfl) (e6) ?_
  refine r_callV1 (c := 3) (mc := 0) (ms := 0) dX3_findParts_14 ck_X3_reach iv_X3_reach sl_X3_reach lk_RX3_131 rfl rfl (c1) (by decide) (by decide) (As := [.int 0, .long x1]) rfl rfl (Nat.le_of_ble_eq_true rfl) (Or.inl rfl) (Or.inl rfl) (e7) ?_
  refine r_lastoreJ 0 dX3_findParts_17 (c8) (c9) (by decide) ?_
  refine r_aload_n dX3_findParts_18 rfl ?_
  refine r_getR (c := 3) (k := 4) dX3_findParts_19 rfl rfl (by decide) fl_RX3_35 (c1) rfl (c2) ?_
  refine r_iconst (v := 1) dX3_findParts_22 (by decide) ?_
  refine r_aaloadJ 1 dX3_findParts_23 (c3) (c10) (by decide) (c11) ?_
  refine r_iconst (v := 0) dX3_findParts_24 (by decide) ?_
  refine r_aload_n dX3_findParts_25 rfl ?_
  refine r_getR (c := 3) (k := 0) dX3_findParts_26 rfl rfl (by decide) fl_RX3_9 (c1) rfl (c12) ?_
  refine r_iconst (v := 0) dX3_findParts_29 (by decide) ?_
  refine r_aload_n dX3_findParts_30 rfl ?_
  refine r_getR (c := 3) (k := 4) dX3_findParts_31 rfl rfl (by decide) fl_RX3_35 (c1) rfl (c2) ?_
  refine r_iconst (v := 0) dX3_findParts_34 (by decide) ?_
  refine r_aaloadJ 0 dX3_findParts_35 (c3) (c4) (by decide) (c5) ?_
  refine r_iconst (v := 0) dX3_findParts_36 (by decide) ?_
  refine r_laloadJ 0 dX3_findParts_37 (c8) (c9) (by decide) ?_
  refine r_callV1 (c := 1) (mc := 0) (ms := 0) dX3_findParts_38 ck_X1_neighbours iv_X1_neighbours sl_X1_neighbours lk_RX3_134 rfl rfl (c14) (by decide) (by decide) (As := [.int 0, .long (hJ (sJ h (hR h (hR h l0 4) 0) 0 x2) (hR h (hR h l0 4) 0) 0)]) rfl rfl (Nat.le_of_ble_eq_true rfl) (Or.inl rfl) (Or.inl rfl) (e13) ?_
  refine r_lastoreJ 0 dX3_findParts_41 (c15) (c16) (by decide) ?_
  refine r_aload_n dX3_findParts_42 rfl ?_
  refine r_getR (c := 3) (k := 4) dX3_findParts_43 rfl rfl (by decide) fl_RX3_35 (c1) rfl (c2) ?_
  refine r_iconst (v := 1) dX3_findParts_46 (by decide) ?_
  refine r_aaloadJ 1 dX3_findParts_47 (c3) (c10) (by decide) (c11) ?_
  refine r_iconst (v := 2) dX3_findParts_48 (by decide) ?_
  refine r_aload_n dX3_findParts_49 rfl ?_
  refine r_iconst (v := 1) dX3_findParts_50 (by decide) ?_
  refine r_aload_n dX3_findParts_51 rfl ?_
  refine r_iconst (v := 1) dX3_findParts_52 (by decide) ?_
  refine r_callV1 (c := 3) (mc := 0) (ms := 0) dX3_findParts_53 ck_X3_bare iv_X3_bare sl_X3_bare lk_RX3_112 rfl rfl (c1) (by decide) (by decide) (As := [.int 1]) rfl rfl (Nat.le_of_ble_eq_true rfl) (Or.inl rfl) (Or.inl rfl) (e17) ?_
  refine r_callV1 (c := 3) (mc := 0) (ms := 0) dX3_findParts_56 ck_X3_reach iv_X3_reach sl_X3_reach lk_RX3_131 rfl rfl (c1) (by decide) (by decide) (As := [.int 1, .long x4]) rfl rfl (Nat.le_of_ble_eq_true rfl) (Or.inl rfl) (Or.inl rfl) (e18) ?_
  refine r_lastoreJ 2 dX3_findParts_59 (c15) (c19) (by decide) ?_
  refine r_aload_n dX3_findParts_60 rfl ?_
  refine r_getR (c := 3) (k := 4) dX3_findParts_61 rfl rfl (by decide) fl_RX3_35 (c1) rfl (c2) ?_
  refine r_iconst (v := 0) dX3_findParts_64 (by decide) ?_
  refine r_aaloadJ 0 dX3_findParts_65 (c3) (c4) (by decide) (c5) ?_
  refine r_iconst (v := 2) dX3_findParts_66 (by decide) ?_
  refine r_aload_n dX3_findParts_67 rfl ?_
  refine r_getR (c := 3) (k := 0) dX3_findParts_68 rfl rfl (by decide) fl_RX3_9 (c1) rfl (c12) ?_
  refine r_iconst (v := 1) dX3_findParts_71 (by decide) ?_
  refine r_aload_n dX3_findParts_72 rfl ?_
  refine r_getR (c := 3) (k := 4) dX3_findParts_73 rfl rfl (by decide) fl_RX3_35 (c1) rfl (c2) ?_
  refine r_iconst (v := 1) dX3_findParts_76 (by decide) ?_
  refine r_aaloadJ 1 dX3_findParts_77 (c3) (c10) (by decide) (c11) ?_
  refine r_iconst (v := 2) dX3_findParts_78 (by decide) ?_
  refine r_laloadJ 2 dX3_findParts_79 (c15) (c19) (by decide) ?_
  refine r_callV1 (c := 1) (mc := 0) (ms := 0) dX3_findParts_80 ck_X1_neighbours iv_X1_neighbours sl_X1_neighbours lk_RX3_134 rfl rfl (c14) (by decide) (by decide) (As := [.int 1, .long (hJ (sJ (sJ (sJ h (hR h (hR h l0 4) 0) 0 x2) (hR h (hR h l0 4) 1) 0 x3) (hR h (hR h l0 4) 1) 2 x5) (hR h (hR h l0 4) 1) 2)]) rfl rfl (Nat.le_of_ble_eq_true rfl) (Or.inl rfl) (Or.inl rfl) (e20) ?_
  refine r_lastoreJ 2 dX3_findParts_83 (c8) (c21) (by decide) ?_
  refine r_iconst (v := 0) dX3_findParts_84 (by decide) ?_
  refine r_istore_nL [some (.ref l0), some (.int 0)] dX3_findParts_85 (by decide) rfl ?_
  exact k22

set_option maxRecDepth 20000 in
set_option maxHeartbeats 2000000 in
theorem s_X3_findParts_86 {G : GG} {nc ns : Nat} {h : PH} {Z : Option Value → PH → Prop} {l0 : Nat} {l1 : Int32} {x1 : Int64}
    (k1 : (1 < l1) → Z none h)
    (c2 : hK h l0 = 13)
    (c3 : (hR h l0 4) ≠ 0)
    (c4 : (hK h (hR h l0 4) = 5 ∨ hK h (hR h l0 4) = 6))
    (c5 : (¬ 1 < l1) → vp_in l1 (hL h (hR h l0 4)))
    (c6 : (¬ 1 < l1) → (hR h (hR h l0 4) (Int32.toNatClampNeg l1)) ≠ 0)
    (c7 : (hR h l0 0) ≠ 0)
    (e8 : (¬ 1 < l1) → Ev G m_X1_all [.ref (hR h l0 0), .int l1] h 0 0 (Ret (some (.long x1)) h))
    (c9 : hK h (hR h l0 0) = 11)
    (c10 : (¬ 1 < l1) → hK h (hR h (hR h l0 4) (Int32.toNatClampNeg l1)) = 3)
    (c11 : (¬ 1 < l1) → vp_in 0 (hL h (hR h (hR h l0 4) (Int32.toNatClampNeg l1))))
    (c12 : (¬ 1 < l1) → vp_in 2 (hL h (hR h (hR h l0 4) (Int32.toNatClampNeg l1))))
    (c13 : (¬ 1 < l1) → vp_in 1 (hL h (hR h (hR h l0 4) (Int32.toNatClampNeg l1))))
    (k14 : (¬ 1 < l1) → RR G nc ns m_X3_findParts 86 [some (.ref l0), some (.int (l1 + 1))] [] (sJ h (hR h (hR h l0 4) (Int32.toNatClampNeg l1)) 1 ((x1 &&& ((hJ h (hR h (hR h l0 4) (Int32.toNatClampNeg l1)) 0) ^^^ (-1))) &&& ((hJ h (hR h (hR h l0 4) (Int32.toNatClampNeg l1)) 2) ^^^ (-1)))) Z) :
    RR G nc ns m_X3_findParts 86 [some (.ref l0), some (.int l1)] [] h Z := by
  refine r_iload_n dX3_findParts_86 rfl ?_
  refine r_iconst (v := 1) dX3_findParts_87 (by decide) ?_
  refine r_icmp_gt 139 dX3_findParts_88 (by decide) (fun q1 => ?_) (fun q1 => ?_)
  · exact r_return dX3_findParts_139 rfl (k1 q1)
  · refine r_aload_n dX3_findParts_91 rfl ?_
    refine r_getR (c := 3) (k := 4) dX3_findParts_92 rfl rfl (by decide) fl_RX3_35 (c2) rfl (c3) ?_
    refine r_iload_n dX3_findParts_95 rfl ?_
    refine r_aaloadJ (Int32.toNatClampNeg l1) dX3_findParts_96 (c4) (c5 q1) rfl (c6 q1) ?_
    refine r_iconst (v := 1) dX3_findParts_97 (by decide) ?_
    refine r_aload_n dX3_findParts_98 rfl ?_
    refine r_getR (c := 3) (k := 0) dX3_findParts_99 rfl rfl (by decide) fl_RX3_9 (c2) rfl (c7) ?_
    refine r_iload_n dX3_findParts_102 rfl ?_
    refine r_callV1 (c := 1) (mc := 0) (ms := 0) dX3_findParts_103 ck_X1_all iv_X1_all sl_X1_all lk_RX3_84 rfl rfl (c9) (by decide) (by decide) (As := [.int l1]) rfl rfl (Nat.le_of_ble_eq_true rfl) (Or.inl rfl) (Or.inl rfl) (e8 q1) ?_
    refine r_aload_n dX3_findParts_106 rfl ?_
    refine r_getR (c := 3) (k := 4) dX3_findParts_107 rfl rfl (by decide) fl_RX3_35 (c2) rfl (c3) ?_
    refine r_iload_n dX3_findParts_110 rfl ?_
    refine r_aaloadJ (Int32.toNatClampNeg l1) dX3_findParts_111 (c4) (c5 q1) rfl (c6 q1) ?_
    refine r_iconst (v := 0) dX3_findParts_112 (by decide) ?_
    refine r_laloadJ 0 dX3_findParts_113 (c10 q1) (c11 q1) (by decide) ?_
    refine r_ldc2 (v := (-1)) dX3_findParts_114 cn_RX3_110 ?_
    refine r_lxor dX3_findParts_117 ?_
    refine r_land dX3_findParts_118 ?_
    refine r_aload_n dX3_findParts_119 rfl ?_
    refine r_getR (c := 3) (k := 4) dX3_findParts_120 rfl rfl (by decide) fl_RX3_35 (c2) rfl (c3) ?_
    refine r_iload_n dX3_findParts_123 rfl ?_
    refine r_aaloadJ (Int32.toNatClampNeg l1) dX3_findParts_124 (c4) (c5 q1) rfl (c6 q1) ?_
    refine r_iconst (v := 2) dX3_findParts_125 (by decide) ?_
    refine r_laloadJ 2 dX3_findParts_126 (c10 q1) (c12 q1) (by decide) ?_
    refine r_ldc2 (v := (-1)) dX3_findParts_127 cn_RX3_110 ?_
    refine r_lxor dX3_findParts_130 ?_
    refine r_land dX3_findParts_131 ?_
    refine r_lastoreJ 1 dX3_findParts_132 (c10 q1) (c13 q1) (by decide) ?_
    refine r_iincL (v := l1 + 1) [some (.ref l0), some (.int (l1 + 1))] dX3_findParts_133 rfl (by decide) rfl rfl ?_
    refine r_goto (tgt := 86) dX3_findParts_136 (by decide) ?_
    exact k14 q1
