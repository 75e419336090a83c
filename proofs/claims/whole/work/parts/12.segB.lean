set_option maxRecDepth 20000 in
set_option maxHeartbeats 2000000 in
theorem s_X0_init_0 {G : GG} {nc ns : Nat} {h : PH} {Z : Option Value → PH → Prop} {l0 : Nat} {l1 : Nat} {l2 : Nat}
    (c1 : hK h l0 = 10)
    (c2 : l1 ≠ 0)
    (k3 : RR G nc ns m_X0_init 9 [some (.ref l0), some (.ref l1), some (.ref l2)] [] (sR h l0 0 l1) Z) :
    RR G nc ns m_X0_init 0 [some (.ref l0), some (.ref l1), some (.ref l2)] [] h Z := by
  refine r_aload_n dX0_init_0 rfl ?_
  refine r_objInit dX0_init_1 lk_RX0_3 iv_obj cd_obj (by decide) (by decide) (Nat.le_of_ble_eq_true rfl) ?_
  refine r_aload_n dX0_init_4 rfl ?_
  refine r_aload_n dX0_init_5 rfl ?_
  refine r_putR (c := 0) (k := 0) dX0_init_6 rfl rfl (by decide) fl_RX0_9 (c1) (Or.inr ⟨rfl, rfl, rfl⟩) rfl (c2) ?_
  exact k3

set_option maxRecDepth 20000 in
set_option maxHeartbeats 2000000 in
theorem s_X0_init_9 {G : GG} {nc ns : Nat} {h : PH} {Z : Option Value → PH → Prop} {l0 : Nat} {l1 : Nat} {l2 : Nat}
    (c1 : hK h l0 = 10)
    (c2 : l2 ≠ 0)
    (k3 : RR G nc ns m_X0_init 14 [some (.ref l0), some (.ref l1), some (.ref l2)] [] (sR h l0 1 l2) Z) :
    RR G nc ns m_X0_init 9 [some (.ref l0), some (.ref l1), some (.ref l2)] [] h Z := by
  refine r_aload_n dX0_init_9 rfl ?_
  refine r_aload_n dX0_init_10 rfl ?_
  refine r_putR (c := 0) (k := 1) dX0_init_11 rfl rfl (by decide) fl_RX0_15 (c1) (Or.inr ⟨rfl, rfl, rfl⟩) rfl (c2) ?_
  exact k3

set_option maxRecDepth 20000 in
set_option maxHeartbeats 2000000 in
theorem s_X0_init_14 {G : GG} {nc ns : Nat} {h : PH} {Z : Option Value → PH → Prop} {l0 : Nat} {l1 : Nat} {l2 : Nat}
    (c1 : (hN h) + 1 ≤ nc)
    (c2 : (hS h) + 50 ≤ ns)
    (c3 : hK (nA h 3 50) l0 = 10)
    (c4 : (hN h) ≠ 0)
    (k5 : RR G nc ns m_X0_init 22 [some (.ref l0), some (.ref l1), some (.ref l2)] [] (sR (nA h 3 50) l0 2 (hN h)) Z) :
    RR G nc ns m_X0_init 14 [some (.ref l0), some (.ref l1), some (.ref l2)] [] h Z := by
  refine r_aload_n dX0_init_14 rfl ?_
  refine r_bipush (v := 50) dX0_init_15 (by decide) ?_
  refine r_newarray (kd := 3) (N := 50) dX0_init_17 rfl rfl rfl ac_long (by decide) (by decide) (by decide) (c1) (c2) ?_
  refine r_putR (c := 0) (k := 2) dX0_init_19 rfl rfl (by decide) fl_RX0_19 (c3) (Or.inr ⟨rfl, rfl, rfl⟩) rfl (c4) ?_
  exact k5

set_option maxRecDepth 20000 in
set_option maxHeartbeats 2000000 in
theorem s_X0_init_22 {G : GG} {nc ns : Nat} {h : PH} {Z : Option Value → PH → Prop} {l0 : Nat} {l1 : Nat} {l2 : Nat}
    (c1 : (hN h) + 1 ≤ nc)
    (c2 : (hS h) + 50 ≤ ns)
    (c3 : hK (nA h 2 50) l0 = 10)
    (c4 : (hN h) ≠ 0)
    (k5 : RR G nc ns m_X0_init 30 [some (.ref l0), some (.ref l1), some (.ref l2)] [] (sR (nA h 2 50) l0 3 (hN h)) Z) :
    RR G nc ns m_X0_init 22 [some (.ref l0), some (.ref l1), some (.ref l2)] [] h Z := by
  refine r_aload_n dX0_init_22 rfl ?_
  refine r_bipush (v := 50) dX0_init_23 (by decide) ?_
  refine r_newarray (kd := 2) (N := 50) dX0_init_25 rfl rfl rfl ac_int (by decide) (by decide) (by decide) (c1) (c2) ?_
  refine r_putR (c := 0) (k := 3) dX0_init_27 rfl rfl (by decide) fl_RX0_23 (c3) (Or.inr ⟨rfl, rfl, rfl⟩) rfl (c4) ?_
  exact k5

set_option maxRecDepth 20000 in
set_option maxHeartbeats 2000000 in
theorem s_X0_init_30 {G : GG} {nc ns : Nat} {h : PH} {Z : Option Value → PH → Prop} {l0 : Nat} {l1 : Nat} {l2 : Nat}
    (c1 : (hN h) + 1 ≤ nc)
    (c2 : (hS h) + 50 ≤ ns)
    (c3 : hK (nA h 3 50) l0 = 10)
    (c4 : (hN h) ≠ 0)
    (k5 : RR G nc ns m_X0_init 38 [some (.ref l0), some (.ref l1), some (.ref l2)] [] (sR (nA h 3 50) l0 4 (hN h)) Z) :
    RR G nc ns m_X0_init 30 [some (.ref l0), some (.ref l1), some (.ref l2)] [] h Z := by
  refine r_aload_n dX0_init_30 rfl ?_
  refine r_bipush (v := 50) dX0_init_31 (by decide) ?_
  refine r_newarray (kd := 3) (N := 50) dX0_init_33 rfl rfl rfl ac_long (by decide) (by decide) (by decide) (c1) (c2) ?_
  refine r_putR (c := 0) (k := 4) dX0_init_35 rfl rfl (by decide) fl_RX0_27 (c3) (Or.inr ⟨rfl, rfl, rfl⟩) rfl (c4) ?_
  exact k5

set_option maxRecDepth 20000 in
set_option maxHeartbeats 2000000 in
theorem s_X0_init_38 {G : GG} {nc ns : Nat} {h : PH} {Z : Option Value → PH → Prop} {l0 : Nat} {l1 : Nat} {l2 : Nat}
    (c1 : (hN h) + 1 ≤ nc)
    (c2 : (hS h) + 50 ≤ ns)
    (c3 : hK (nA h 3 50) l0 = 10)
    (c4 : (hN h) ≠ 0)
    (k5 : RR G nc ns m_X0_init 46 [some (.ref l0), some (.ref l1), some (.ref l2)] [] (sR (nA h 3 50) l0 5 (hN h)) Z) :
    RR G nc ns m_X0_init 38 [some (.ref l0), some (.ref l1), some (.ref l2)] [] h Z := by
  refine r_aload_n dX0_init_38 rfl ?_
  refine r_bipush (v := 50) dX0_init_39 (by decide) ?_
  refine r_newarray (kd := 3) (N := 50) dX0_init_41 rfl rfl rfl ac_long (by decide) (by decide) (by decide) (c1) (c2) ?_
  refine r_putR (c := 0) (k := 5) dX0_init_43 rfl rfl (by decide) fl_RX0_30 (c3) (Or.inr ⟨rfl, rfl, rfl⟩) rfl (c4) ?_
  exact k5

set_option maxRecDepth 20000 in
set_option maxHeartbeats 2000000 in
theorem s_X0_init_46 {G : GG} {nc ns : Nat} {h : PH} {Z : Option Value → PH → Prop} {l0 : Nat} {l1 : Nat} {l2 : Nat}
    (c1 : hK h l0 = 10)
    (k2 : RR G nc ns m_X0_init 51 [some (.ref l0), some (.ref l1), some (.ref l2)] [] (sI h l0 6 0) Z) :
    RR G nc ns m_X0_init 46 [some (.ref l0), some (.ref l1), some (.ref l2)] [] h Z := by
  refine r_aload_n dX0_init_46 rfl ?_
  refine r_iconst (v := 0) dX0_init_47 (by decide) ?_
  refine r_putI (c := 0) (k := 6) dX0_init_48 rfl rfl (by decide) fl_RX0_33 (c1) (Or.inl rfl) (Or.inl rfl) ?_
  exact k2

set_option maxRecDepth 20000 in
set_option maxHeartbeats 2000000 in
theorem s_X0_init_51 {G : GG} {nc ns : Nat} {h : PH} {Z : Option Value → PH → Prop} {l0 : Nat} {l1 : Nat} {l2 : Nat}
    (c1 : hK h l0 = 10)
    (k2 : RR G nc ns m_X0_init 56 [some (.ref l0), some (.ref l1), some (.ref l2)] [] (sI h l0 7 (-1)) Z) :
    RR G nc ns m_X0_init 51 [some (.ref l0), some (.ref l1), some (.ref l2)] [] h Z := by
  refine r_aload_n dX0_init_51 rfl ?_
  refine r_iconst (v := (-1)) dX0_init_52 (by decide) ?_
  refine r_putI (c := 0) (k := 7) dX0_init_53 rfl rfl (by decide) fl_RX0_37 (c1) (Or.inl rfl) (Or.inl rfl) ?_
  exact k2

set_option maxRecDepth 20000 in
set_option maxHeartbeats 2000000 in
theorem s_X0_init_56 {G : GG} {nc ns : Nat} {h : PH} {Z : Option Value → PH → Prop} {l0 : Nat} {l1 : Nat} {l2 : Nat}
    (k1 : Z none h) :
    RR G nc ns m_X0_init 56 [some (.ref l0), some (.ref l1), some (.ref l2)] [] h Z := by
  exact r_return dX0_init_56 rfl (k1)

set_option maxRecDepth 20000 in
set_option maxHeartbeats 2000000 in
theorem s_X0_refresh_0 {G : GG} {nc ns : Nat} {h : PH} {Z : Option Value → PH → Prop} {l0 : Nat} {x1 : Int32} {x2 : Int32} {P3 : PH → Prop}
    (c1 : hK h l0 = 10)
    (c2 : (hR h l0 0) ≠ 0)
    (e3 : Ev G m_X1_changes [.ref (hR h l0 0)] h 0 0 (Ret (some (.int x1)) h))
    (c4 : hK h (hR h l0 0) = 11)
    (e5 : (¬ (hI h l0 7) = x1) → Ev G m_X1_changes [.ref (hR h l0 0)] h 0 0 (Ret (some (.int x2)) h))
    (e6 : (¬ (hI h l0 7) = x1) → Ev G m_X0_findReached [.ref l0] (sI h l0 7 x2) 0 0 (RV P3))
    (k7 : (¬ (hI h l0 7) = x1) → ∀ (h3 : PH), P3 h3 → hN h3 = (hN h) → hS h3 = (hS h) → RR G nc ns m_X0_refresh 30 [some (.ref l0)] [] h3 Z)
    (k8 : ((hI h l0 7) = x1) → Z none h) :
    RR G nc ns m_X0_refresh 0 [some (.ref l0)] [] h Z := by
  refine r_aload_n dX0_refresh_0 rfl ?_
  refine r_get (c := 0) (k := 7) dX0_refresh_1 rfl rfl (by decide) fl_RX0_37 (c1) rfl ?_
  refine r_aload_n dX0_refresh_4 rfl ?_
  refine r_getR (c := 0) (k := 0) dX0_refresh_5 rfl rfl (by decide) fl_RX0_9 (c1) rfl (c2) ?_
  refine r_callV1 (c := 1) (mc := 0) (ms := 0) dX0_refresh_8 ck_X1_changes iv_X1_changes sl_X1_changes lk_RX0_40 rfl rfl (c4) (by decide) (by decide) (As := []) rfl rfl (Nat.le_of_ble_eq_true rfl) (Or.inl rfl) (Or.inl rfl) (e3) ?_
  refine r_icmp_ne 15 dX0_refresh_11 (by decide) (fun q1 => ?_) (fun q1 => ?_)
  · refine r_aload_n dX0_refresh_15 rfl ?_
    refine r_aload_n dX0_refresh_16 rfl ?_
    refine r_getR (c := 0) (k := 0) dX0_refresh_17 rfl rfl (by decide) fl_RX0_9 (c1) rfl (c2) ?_
    refine r_callV1 (c := 1) (mc := 0) (ms := 0) dX0_refresh_20 ck_X1_changes iv_X1_changes sl_X1_changes lk_RX0_40 rfl rfl (c4) (by decide) (by decide) (As := []) rfl rfl (Nat.le_of_ble_eq_true rfl) (Or.inl rfl) (Or.inl rfl) (e5 q1) ?_
    refine r_putI (c := 0) (k := 7) dX0_refresh_23 rfl rfl (by decide) fl_RX0_37 (c1) (Or.inl rfl) (Or.inl rfl) ?_
    refine r_aload_n dX0_refresh_26 rfl ?_
    refine r_callV (c := 0) (mc := 0) (ms := 0) dX0_refresh_27 ck_X0_findReached iv_X0_findReached sl_X0_findReached lk_RX0_46 rfl rfl (c1) (by decide) (by decide) (As := []) rfl rfl (Nat.le_of_ble_eq_true rfl) (Or.inl rfl) (Or.inl rfl) (e6 q1) ?_
    rintro v3 h3 ⟨rfl, z3⟩ n3 t3
    exact k7 q1 h3 z3 n3 t3
  · exact r_return dX0_refresh_14 rfl (k8 q1)

set_option maxRecDepth 20000 in
set_option maxHeartbeats 2000000 in
theorem s_X0_refresh_30 {G : GG} {nc ns : Nat} {h : PH} {Z : Option Value → PH → Prop} {l0 : Nat} {P1 : PH → Prop}
    (e1 : Ev G m_X0_numberAll [.ref l0] h 0 0 (RV P1))
    (c2 : hK h l0 = 10)
    (k3 : ∀ (h1 : PH), P1 h1 → hN h1 = (hN h) → hS h1 = (hS h) → RR G nc ns m_X0_refresh 34 [some (.ref l0)] [] h1 Z) :
    RR G nc ns m_X0_refresh 30 [some (.ref l0)] [] h Z := by
  refine r_aload_n dX0_refresh_30 rfl ?_
  refine r_callV (c := 0) (mc := 0) (ms := 0) dX0_refresh_31 ck_X0_numberAll iv_X0_numberAll sl_X0_numberAll lk_RX0_49 rfl rfl (c2) (by decide) (by decide) (As := []) rfl rfl (Nat.le_of_ble_eq_true rfl) (Or.inl rfl) (Or.inl rfl) (e1) ?_
  rintro v1 h1 ⟨rfl, z1⟩ n1 t1
  exact k3 h1 z1 n1 t1

set_option maxRecDepth 20000 in
set_option maxHeartbeats 2000000 in
theorem s_X0_refresh_34 {G : GG} {nc ns : Nat} {h : PH} {Z : Option Value → PH → Prop} {l0 : Nat}
    (k1 : Z none h) :
    RR G nc ns m_X0_refresh 34 [some (.ref l0)] [] h Z := by
  exact r_return dX0_refresh_34 rfl (k1)

set_option maxRecDepth 20000 in
set_option maxHeartbeats 2000000 in
theorem s_X0_howMany_0 {G : GG} {nc ns : Nat} {h : PH} {Z : Option Value → PH → Prop} {l0 : Nat}
    (c1 : hK h l0 = 10)
    (k2 : Z (some (.int (hI h l0 6))) h) :
    RR G nc ns m_X0_howMany 0 [some (.ref l0)] [] h Z := by
  refine r_aload_n dX0_howMany_0 rfl ?_
  refine r_get (c := 0) (k := 6) dX0_howMany_1 rfl rfl (by decide) fl_RX0_33 (c1) rfl ?_
  exact r_ireturn dX0_howMany_4 rfl (k2)

set_option maxRecDepth 20000 in
set_option maxHeartbeats 2000000 in
theorem s_X0_holds_0 {G : GG} {nc ns : Nat} {h : PH} {Z : Option Value → PH → Prop} {l0 : Nat} {l1 : Int32}
    (k1 : (l1 < 0) → Z (some (.int 0)) h)
    (c2 : hK h l0 = 10)
    (k3 : (¬ l1 < 0) → ((hI h l0 6) ≤ l1) → Z (some (.int 0)) h)
    (k4 : (¬ l1 < 0) → (¬ (hI h l0 6) ≤ l1) → Z (some (.int 1)) h) :
    RR G nc ns m_X0_holds 0 [some (.ref l0), some (.int l1)] [] h Z := by
  refine r_iload_n dX0_holds_0 rfl ?_
  refine r_if_lt 16 dX0_holds_1 (by decide) (fun q1 => ?_) (fun q1 => ?_)
  · refine r_iconst (v := 0) dX0_holds_16 (by decide) ?_
    exact r_zreturn dX0_holds_17 rfl (by decide) (k1 q1)
  · refine r_iload_n dX0_holds_4 rfl ?_
    refine r_aload_n dX0_holds_5 rfl ?_
    refine r_get (c := 0) (k := 6) dX0_holds_6 rfl rfl (by decide) fl_RX0_33 (c2) rfl ?_
    refine r_icmp_ge 16 dX0_holds_9 (by decide) (fun q2 => ?_) (fun q2 => ?_)
    · refine r_iconst (v := 0) dX0_holds_16 (by decide) ?_
      exact r_zreturn dX0_holds_17 rfl (by decide) (k3 q1 q2)
    · refine r_iconst (v := 1) dX0_holds_12 (by decide) ?_
      refine r_goto (tgt := 17) dX0_holds_13 (by decide) ?_
      exact r_zreturn dX0_holds_17 rfl (by decide) (k4 q1 q2)

set_option maxRecDepth 20000 in
set_option maxHeartbeats 2000000 in
theorem s_X0_numberOf_0 {G : GG} {nc ns : Nat} {h : PH} {Z : Option Value → PH → Prop} {l0 : Nat} {l1 : Int32} {l2 : Int32} {x1 : Int32} {x2 : Int32} {x3 : Int32}
    (c1 : hK h l0 = 10)
    (c2 : (hR h l0 1) ≠ 0)
    (e3 : (¬ l1 = 0) → Ev G m_X3_mateOf [.ref (hR h l0 1), .int 1, .int l2] h 0 0 (Ret (some (.int x1)) h))
    (c4 : hK h (hR h l0 1) = 13)
    (c5 : (hR h l0 0) ≠ 0)
    (e6 : (¬ l1 = 0) → Ev G m_X1_holds [.ref (hR h l0 0), .int 0, .int x1] h 0 0 (Ret (some (.int x2)) h))
    (c7 : hK h (hR h l0 0) = 11)
    (k8 : (¬ l1 = 0) → (x2 = 0) → Z (some (.int (-3))) h)
    (c9 : (hR h l0 3) ≠ 0)
    (c10 : hK h (hR h l0 3) = 2)
    (c11 : (¬ l1 = 0) → (¬ x2 = 0) → vp_in x1 (hL h (hR h l0 3)))
    (k12 : (¬ l1 = 0) → (¬ x2 = 0) → Z (some (.int (hI h (hR h l0 3) (Int32.toNatClampNeg x1)))) h)
    (e13 : (l1 = 0) → Ev G m_X1_holds [.ref (hR h l0 0), .int 0, .int l2] h 0 0 (Ret (some (.int x3)) h))
    (k14 : (l1 = 0) → (x3 = 0) → Z (some (.int (-3))) h)
    (c15 : (l1 = 0) → (¬ x3 = 0) → vp_in l2 (hL h (hR h l0 3)))
    (k16 : (l1 = 0) → (¬ x3 = 0) → Z (some (.int (hI h (hR h l0 3) (Int32.toNatClampNeg l2)))) h) :
    RR G nc ns m_X0_numberOf 0 [some (.ref l0), some (.int l1), some (.int l2), none] [] h Z := by
  refine r_iload_n dX0_numberOf_0 rfl ?_
  refine r_if_ne 8 dX0_numberOf_1 (by decide) (fun q1 => ?_) (fun q1 => ?_)
  · refine r_aload_n dX0_numberOf_8 rfl ?_
    refine r_getR (c := 0) (k := 1) dX0_numberOf_9 rfl rfl (by decide) fl_RX0_15 (c1) rfl (c2) ?_
    refine r_iconst (v := 1) dX0_numberOf_12 (by decide) ?_
    refine r_iload_n dX0_numberOf_13 rfl ?_
    refine r_callV1 (c := 3) (mc := 0) (ms := 0) dX0_numberOf_14 ck_X3_mateOf iv_X3_mateOf sl_X3_mateOf lk_RX0_52 rfl rfl (c4) (by decide) (by decide) (As := [.int 1, .int l2]) rfl rfl (Nat.le_of_ble_eq_true rfl) (Or.inl rfl) (Or.inl rfl) (e3 q1) ?_
    refine r_istore_nL [some (.ref l0), some (.int l1), some (.int l2), some (.int x1)] dX0_numberOf_17 (by decide) rfl ?_
    refine r_aload_n dX0_numberOf_18 rfl ?_
    refine r_getR (c := 0) (k := 0) dX0_numberOf_19 rfl rfl (by decide) fl_RX0_9 (c1) rfl (c5) ?_
    refine r_iconst (v := 0) dX0_numberOf_22 (by decide) ?_
    refine r_iload_n dX0_numberOf_23 rfl ?_
    refine r_callV1 (c := 1) (mc := 0) (ms := 0) dX0_numberOf_24 ck_X1_holds iv_X1_holds sl_X1_holds lk_RX0_58 rfl rfl (c7) (by decide) (by decide) (As := [.int 0, .int x1]) rfl rfl (Nat.le_of_ble_eq_true rfl) (Or.inl rfl) (Or.inl rfl) (e6 q1) ?_
    refine r_if_eq 39 dX0_numberOf_27 (by decide) (fun q2 => ?_) (fun q2 => ?_)
    · refine r_bipush (v := (-3)) dX0_numberOf_39 (by decide) ?_
      exact r_ireturn dX0_numberOf_41 rfl (k8 q1 q2)
    · refine r_aload_n dX0_numberOf_30 rfl ?_
      refine r_getR (c := 0) (k := 3) dX0_numberOf_31 rfl rfl (by decide) fl_RX0_23 (c1) rfl (c9) ?_
      refine r_iload_n dX0_numberOf_34 rfl ?_
      refine r_ialoadJ (Int32.toNatClampNeg x1) dX0_numberOf_35 (c10) (c11 q1 q2) rfl ?_
      refine r_goto (tgt := 41) dX0_numberOf_36 (by decide) ?_
      exact r_ireturn dX0_numberOf_41 rfl (k12 q1 q2)
  · refine r_iload_n dX0_numberOf_4 rfl ?_
    refine r_goto (tgt := 17) dX0_numberOf_5 (by decide) ?_
    refine r_istore_nL [some (.ref l0), some (.int l1), some (.int l2), some (.int l2)] dX0_numberOf_17 (by decide) rfl ?_
    refine r_aload_n dX0_numberOf_18 rfl ?_
    refine r_getR (c := 0) (k := 0) dX0_numberOf_19 rfl rfl (by decide) fl_RX0_9 (c1) rfl (c5) ?_
    refine r_iconst (v := 0) dX0_numberOf_22 (by decide) ?_
    refine r_iload_n dX0_numberOf_23 rfl ?_
    refine r_callV1 (c := 1) (mc := 0) (ms := 0) dX0_numberOf_24 ck_X1_holds iv_X1_holds sl_X1_holds lk_RX0_58 rfl rfl (c7) (by decide) (by decide) (As := [.int 0, .int l2]) rfl rfl (Nat.le_of_ble_eq_true rfl) (Or.inl rfl) (Or.inl rfl) (e13 q1) ?_
    refine r_if_eq 39 dX0_numberOf_27 (by decide) (fun q3 => ?_) (fun q3 => ?_)
    · refine r_bipush (v := (-3)) dX0_numberOf_39 (by decide) ?_
      exact r_ireturn dX0_numberOf_41 rfl (k14 q1 q3)
    · refine r_aload_n dX0_numberOf_30 rfl ?_
      refine r_getR (c := 0) (k := 3) dX0_numberOf_31 rfl rfl (by decide) fl_RX0_23 (c1) rfl (c9) ?_
      refine r_iload_n dX0_numberOf_34 rfl ?_
      refine r_ialoadJ (Int32.toNatClampNeg l2) dX0_numberOf_35 (c10) (c15 q1 q3) rfl ?_
      refine r_goto (tgt := 41) dX0_numberOf_36 (by decide) ?_
      exact r_ireturn dX0_numberOf_41 rfl (k16 q1 q3)

set_option maxRecDepth 20000 in
set_option maxHeartbeats 2000000 in
theorem s_X0_comesTo_0 {G : GG} {nc ns : Nat} {h : PH} {Z : Option Value → PH → Prop} {l0 : Nat} {l1 : Int32} {l2 : Int32} {x1 : Int32} {x2 : Int32}
    (k1 : (l1 = l2) → Z (some (.int 0)) h)
    (e2 : (¬ l1 = l2) → Ev G m_X0_holds [.ref l0, .int l1] h 0 0 (Ret (some (.int x1)) h))
    (c3 : hK h l0 = 10)
    (k4 : (¬ l1 = l2) → (x1 = 0) → Z (some (.int 0)) h)
    (e5 : (¬ l1 = l2) → (¬ x1 = 0) → Ev G m_X0_holds [.ref l0, .int l2] h 0 0 (Ret (some (.int x2)) h))
    (c6 : (hR h l0 5) ≠ 0)
    (c7 : hK h (hR h l0 5) = 3)
    (c8 : (¬ l1 = l2) → (¬ x1 = 0) → (¬ x2 = 0) → vp_in l1 (hL h (hR h l0 5)))
    (c9 : (hR h l0 4) ≠ 0)
    (c10 : hK h (hR h l0 4) = 3)
    (c11 : (¬ l1 = l2) → (¬ x1 = 0) → (¬ x2 = 0) → vp_in l2 (hL h (hR h l0 4)))
    (k12 : (¬ l1 = l2) → (¬ x1 = 0) → (¬ x2 = 0) → ((lg_cmp ((hJ h (hR h l0 5) (Int32.toNatClampNeg l1)) &&& (hJ h (hR h l0 4) (Int32.toNatClampNeg l2))) 0) = 0) → Z (some (.int 0)) h)
    (k13 : (¬ l1 = l2) → (¬ x1 = 0) → (¬ x2 = 0) → (¬ (lg_cmp ((hJ h (hR h l0 5) (Int32.toNatClampNeg l1)) &&& (hJ h (hR h l0 4) (Int32.toNatClampNeg l2))) 0) = 0) → Z (some (.int 1)) h)
    (k14 : (¬ l1 = l2) → (¬ x1 = 0) → (x2 = 0) → Z (some (.int 0)) h) :
    RR G nc ns m_X0_comesTo 0 [some (.ref l0), some (.int l1), some (.int l2)] [] h Z := by
  refine r_iload_n dX0_comesTo_0 rfl ?_
  refine r_iload_n dX0_comesTo_1 rfl ?_
  refine r_icmp_eq 21 dX0_comesTo_2 (by decide) (fun q1 => ?_) (fun q1 => ?_)
  · refine r_iconst (v := 0) dX0_comesTo_21 (by decide) ?_
    exact r_zreturn dX0_comesTo_22 rfl (by decide) (k1 q1)
  · refine r_aload_n dX0_comesTo_5 rfl ?_
    refine r_iload_n dX0_comesTo_6 rfl ?_
    refine r_callV1 (c := 0) (mc := 0) (ms := 0) dX0_comesTo_7 ck_X0_holds iv_X0_holds sl_X0_holds lk_RX0_62 rfl rfl (c3) (by decide) (by decide) (As := [.int l1]) rfl rfl (Nat.le_of_ble_eq_true rfl) (Or.inl rfl) (Or.inl rfl) (e2 q1) ?_
    refine r_if_eq 21 dX0_comesTo_10 (by decide) (fun q2 => ?_) (fun q2 => ?_)
    · refine r_iconst (v := 0) dX0_comesTo_21 (by decide) ?_
      exact r_zreturn dX0_comesTo_22 rfl (by decide) (k4 q1 q2)
    · refine r_aload_n dX0_comesTo_13 rfl ?_
      refine r_iload_n dX0_comesTo_14 rfl ?_
      refine r_callV1 (c := 0) (mc := 0) (ms := 0) dX0_comesTo_15 ck_X0_holds iv_X0_holds sl_X0_holds lk_RX0_62 rfl rfl (c3) (by decide) (by decide) (As := [.int l2]) rfl rfl (Nat.le_of_ble_eq_true rfl) (Or.inl rfl) (Or.inl rfl) (e5 q1 q2) ?_
      refine r_if_ne 23 dX0_comesTo_18 (by decide) (fun q3 => ?_) (fun q3 => ?_)
      · refine r_aload_n dX0_comesTo_23 rfl ?_
        refine r_getR (c := 0) (k := 5) dX0_comesTo_24 rfl rfl (by decide) fl_RX0_30 (c3) rfl (c6) ?_
        refine r_iload_n dX0_comesTo_27 rfl ?_
        refine r_laloadJ (Int32.toNatClampNeg l1) dX0_comesTo_28 (c7) (c8 q1 q2 q3) rfl ?_
        refine r_aload_n dX0_comesTo_29 rfl ?_
        refine r_getR (c := 0) (k := 4) dX0_comesTo_30 rfl rfl (by decide) fl_RX0_27 (c3) rfl (c9) ?_
        refine r_iload_n dX0_comesTo_33 rfl ?_
        refine r_laloadJ (Int32.toNatClampNeg l2) dX0_comesTo_34 (c10) (c11 q1 q2 q3) rfl ?_
        refine r_land dX0_comesTo_35 ?_
        refine r_lconst (v := 0) dX0_comesTo_36 (by decide) ?_
        refine r_lcmp dX0_comesTo_37 ?_
        refine r_if_eq 45 dX0_comesTo_38 (by decide) (fun q4 => ?_) (fun q4 => ?_)
        · refine r_iconst (v := 0) dX0_comesTo_45 (by decide) ?_
          exact r_zreturn dX0_comesTo_46 rfl (by decide) (k12 q1 q2 q3 q4)
        · refine r_iconst (v := 1) dX0_comesTo_41 (by decide) ?_
          refine r_goto (tgt := 46) dX0_comesTo_42 (by decide) ?_
          exact r_zreturn dX0_comesTo_46 rfl (by decide) (k13 q1 q2 q3 q4)
      · refine r_iconst (v := 0) dX0_comesTo_21 (by decide) ?_
        exact r_zreturn dX0_comesTo_22 rfl (by decide) (k14 q1 q2 q3)

set_option maxRecDepth 20000 in
set_option maxHeartbeats 2000000 in
theorem s_X0_isLonePair_0 {G : GG} {nc ns : Nat} {h : PH} {Z : Option Value → PH → Prop} {l0 : Nat} {l1 : Int32} {x1 : Int32} {x2 : Int32} {x3 : Int32}
    (e1 : Ev G m_X0_numberOf [.ref l0, .int 0, .int l1] h 0 0 (Ret (some (.int x1)) h))
    (c2 : hK h l0 = 10)
    (e3 : Ev G m_X0_holds [.ref l0, .int x1] h 0 0 (Ret (some (.int x2)) h))
    (k4 : (x2 = 0) → Z (some (.int 0)) h)
    (c5 : (hR h l0 4) ≠ 0)
    (c6 : hK h (hR h l0 4) = 3)
    (c7 : (¬ x2 = 0) → vp_in x1 (hL h (hR h l0 4)))
    (e8 : (¬ x2 = 0) → Ev G m_J13_bitCount_95d88 [.long (hJ h (hR h l0 4) (Int32.toNatClampNeg x1))] h 0 0 (Ret (some (.int x3)) h))
    (k9 : (¬ x2 = 0) → (¬ x3 = 1) → Z (some (.int 0)) h)
    (k10 : (¬ x2 = 0) → (x3 = 1) → Z (some (.int 1)) h) :
    RR G nc ns m_X0_isLonePair 0 [some (.ref l0), some (.int l1), none] [] h Z := by
  refine r_aload_n dX0_isLonePair_0 rfl ?_
  refine r_iconst (v := 0) dX0_isLonePair_1 (by decide) ?_
  refine r_iload_n dX0_isLonePair_2 rfl ?_
  refine r_callV1 (c := 0) (mc := 0) (ms := 0) dX0_isLonePair_3 ck_X0_numberOf iv_X0_numberOf sl_X0_numberOf lk_RX0_65 rfl rfl (c2) (by decide) (by decide) (As := [.int 0, .int l1]) rfl rfl (Nat.le_of_ble_eq_true rfl) (Or.inl rfl) (Or.inl rfl) (e1) ?_
  refine r_istore_nL [some (.ref l0), some (.int l1), some (.int x1)] dX0_isLonePair_6 (by decide) rfl ?_
  refine r_aload_n dX0_isLonePair_7 rfl ?_
  refine r_iload_n dX0_isLonePair_8 rfl ?_
  refine r_callV1 (c := 0) (mc := 0) (ms := 0) dX0_isLonePair_9 ck_X0_holds iv_X0_holds sl_X0_holds lk_RX0_62 rfl rfl (c2) (by decide) (by decide) (As := [.int x1]) rfl rfl (Nat.le_of_ble_eq_true rfl) (Or.inl rfl) (Or.inl rfl) (e3) ?_
  refine r_if_eq 32 dX0_isLonePair_12 (by decide) (fun q1 => ?_) (fun q1 => ?_)
  · refine r_iconst (v := 0) dX0_isLonePair_32 (by decide) ?_
    exact r_zreturn dX0_isLonePair_33 rfl (by decide) (k4 q1)
  · refine r_aload_n dX0_isLonePair_15 rfl ?_
    refine r_getR (c := 0) (k := 4) dX0_isLonePair_16 rfl rfl (by decide) fl_RX0_27 (c2) rfl (c5) ?_
    refine r_iload_n dX0_isLonePair_19 rfl ?_
    refine r_laloadJ (Int32.toNatClampNeg x1) dX0_isLonePair_20 (c6) (c7 q1) rfl ?_
    refine r_callS1 (mc := 0) (ms := 0) dX0_isLonePair_21 ck_J13_bitCount_95d88 sv_J13_bitCount_95d88 lk_RX0_68 (by decide) (by decide) (As := [.long (hJ h (hR h l0 4) (Int32.toNatClampNeg x1))]) rfl rfl (Nat.le_of_ble_eq_true rfl) (Or.inl rfl) (Or.inl rfl) (e8 q1) ?_
    refine r_iconst (v := 1) dX0_isLonePair_24 (by decide) ?_
    refine r_icmp_ne 32 dX0_isLonePair_25 (by decide) (fun q2 => ?_) (fun q2 => ?_)
    · refine r_iconst (v := 0) dX0_isLonePair_32 (by decide) ?_
      exact r_zreturn dX0_isLonePair_33 rfl (by decide) (k9 q1 q2)
    · refine r_iconst (v := 1) dX0_isLonePair_28 (by decide) ?_
      refine r_goto (tgt := 33) dX0_isLonePair_29 (by decide) ?_
      exact r_zreturn dX0_isLonePair_33 rfl (by decide) (k10 q1 q2)

set_option maxRecDepth 20000 in
set_option maxHeartbeats 2000000 in
theorem s_X0_usefulRights_0 {G : GG} {nc ns : Nat} {h : PH} {Z : Option Value → PH → Prop} {l0 : Nat} {l1 : Int32} {x1 : Int32} {x2 : Int32} {x3 : Int32} {x4 : Int64} {x5 : Int64} {x6 : Int64} {x7 : Int64}
    (e1 : Ev G m_X0_numberOf [.ref l0, .int 0, .int l1] h 0 0 (Ret (some (.int x1)) h))
    (c2 : hK h l0 = 10)
    (e3 : Ev G m_X0_holds [.ref l0, .int x1] h 0 0 (Ret (some (.int x2)) h))
    (c4 : (hR h l0 1) ≠ 0)
    (e5 : (x2 = 0) → Ev G m_X3_partOf [.ref (hR h l0 1), .int 0, .int l1] h 0 0 (Ret (some (.int x3)) h))
    (c6 : hK h (hR h l0 1) = 13)
    (e7 : (x2 = 0) → Ev G m_X3_nodesOfPart [.ref (hR h l0 1), .int 1, .int x3] h 0 0 (Ret (some (.long x4)) h))
    (c8 : (hR h l0 0) ≠ 0)
    (e9 : (x2 = 0) → Ev G m_X1_across [.ref (hR h l0 0), .int 0, .int l1] h 0 0 (Ret (some (.long x5)) h))
    (c10 : hK h (hR h l0 0) = 11)
    (k11 : (x2 = 0) → Z (some (.long (x5 &&& x4))) h)
    (c12 : (hR h l0 4) ≠ 0)
    (c13 : hK h (hR h l0 4) = 3)
    (c14 : (¬ x2 = 0) → vp_in x1 (hL h (hR h l0 4)))
    (e15 : (¬ x2 = 0) → Ev G m_X3_matesOf [.ref (hR h l0 1), .int 0, .long (hJ h (hR h l0 4) (Int32.toNatClampNeg x1))] h 0 0 (Ret (some (.long x6)) h))
    (e16 : (¬ x2 = 0) → Ev G m_X1_across [.ref (hR h l0 0), .int 0, .int l1] h 0 0 (Ret (some (.long x7)) h))
    (k17 : (¬ x2 = 0) → Z (some (.long (x7 &&& x6))) h) :
    RR G nc ns m_X0_usefulRights 0 [some (.ref l0), some (.int l1), none, none, none] [] h Z := by
  refine r_aload_n dX0_usefulRights_0 rfl ?_
  refine r_iconst (v := 0) dX0_usefulRights_1 (by decide) ?_
  refine r_iload_n dX0_usefulRights_2 rfl ?_
  refine r_callV1 (c := 0) (mc := 0) (ms := 0) dX0_usefulRights_3 ck_X0_numberOf iv_X0_numberOf sl_X0_numberOf lk_RX0_65 rfl rfl (c2) (by decide) (by decide) (As := [.int 0, .int l1]) rfl rfl (Nat.le_of_ble_eq_true rfl) (Or.inl rfl) (Or.inl rfl) (e1) ?_
  refine r_istore_nL [some (.ref l0), some (.int l1), some (.int x1), none, none] dX0_usefulRights_6 (by decide) rfl ?_
  refine r_aload_n dX0_usefulRights_7 rfl ?_
  refine r_iload_n dX0_usefulRights_8 rfl ?_
  refine r_callV1 (c := 0) (mc := 0) (ms := 0) dX0_usefulRights_9 ck_X0_holds iv_X0_holds sl_X0_holds lk_RX0_62 rfl rfl (c2) (by decide) (by decide) (As := [.int x1]) rfl rfl (Nat.le_of_ble_eq_true rfl) (Or.inl rfl) (Or.inl rfl) (e3) ?_
  refine r_if_eq 32 dX0_usefulRights_12 (by decide) (fun q1 => ?_) (fun q1 => ?_)
  · refine r_aload_n dX0_usefulRights_32 rfl ?_
    refine r_getR (c := 0) (k := 1) dX0_usefulRights_33 rfl rfl (by decide) fl_RX0_15 (c2) rfl (c4) ?_
    refine r_iconst (v := 1) dX0_usefulRights_36 (by decide) ?_
    refine r_aload_n dX0_usefulRights_37 rfl ?_
    refine r_getR (c := 0) (k := 1) dX0_usefulRights_38 rfl rfl (by decide) fl_RX0_15 (c2) rfl (c4) ?_
    refine r_iconst (v := 0) dX0_usefulRights_41 (by decide) ?_
    refine r_iload_n dX0_usefulRights_42 rfl ?_
    refine r_callV1 (c := 3) (mc := 0) (ms := 0) dX0_usefulRights_43 ck_X3_partOf iv_X3_partOf sl_X3_partOf lk_RX0_78 rfl rfl (c6) (by decide) (by decide) (As := [.int 0, .int l1]) rfl rfl (Nat.le_of_ble_eq_true rfl) (Or.inl rfl) (Or.inl rfl) (e5 q1) ?_
    refine r_callV1 (c := 3) (mc := 0) (ms := 0) dX0_usefulRights_46 ck_X3_nodesOfPart iv_X3_nodesOfPart sl_X3_nodesOfPart lk_RX0_81 rfl rfl (c6) (by decide) (by decide) (As := [.int 1, .int x3]) rfl rfl (Nat.le_of_ble_eq_true rfl) (Or.inl rfl) (Or.inl rfl) (e7 q1) ?_
    refine r_lstore_nL [some (.ref l0), some (.int l1), some (.int x1), some (.long x4), none] dX0_usefulRights_49 (by decide) rfl ?_
    refine r_aload_n dX0_usefulRights_50 rfl ?_
    refine r_getR (c := 0) (k := 0) dX0_usefulRights_51 rfl rfl (by decide) fl_RX0_9 (c2) rfl (c8) ?_
    refine r_iconst (v := 0) dX0_usefulRights_54 (by decide) ?_
    refine r_iload_n dX0_usefulRights_55 rfl ?_
    refine r_callV1 (c := 1) (mc := 0) (ms := 0) dX0_usefulRights_56 ck_X1_across iv_X1_across sl_X1_across lk_RX0_85 rfl rfl (c10) (by decide) (by decide) (As := [.int 0, .int l1]) rfl rfl (Nat.le_of_ble_eq_true rfl) (Or.inl rfl) (Or.inl rfl) (e9 q1) ?_
    refine r_lload_n dX0_usefulRights_59 rfl ?_
    refine r_land dX0_usefulRights_60 ?_
    exact r_lreturn dX0_usefulRights_61 rfl (k11 q1)
  · refine r_aload_n dX0_usefulRights_15 rfl ?_
    refine r_getR (c := 0) (k := 1) dX0_usefulRights_16 rfl rfl (by decide) fl_RX0_15 (c2) rfl (c4) ?_
    refine r_iconst (v := 0) dX0_usefulRights_19 (by decide) ?_
    refine r_aload_n dX0_usefulRights_20 rfl ?_
    refine r_getR (c := 0) (k := 4) dX0_usefulRights_21 rfl rfl (by decide) fl_RX0_27 (c2) rfl (c12) ?_
    refine r_iload_n dX0_usefulRights_24 rfl ?_
    refine r_laloadJ (Int32.toNatClampNeg x1) dX0_usefulRights_25 (c13) (c14 q1) rfl ?_
    refine r_callV1 (c := 3) (mc := 0) (ms := 0) dX0_usefulRights_26 ck_X3_matesOf iv_X3_matesOf sl_X3_matesOf lk_RX0_74 rfl rfl (c6) (by decide) (by decide) (As := [.int 0, .long (hJ h (hR h l0 4) (Int32.toNatClampNeg x1))]) rfl rfl (Nat.le_of_ble_eq_true rfl) (Or.inl rfl) (Or.inl rfl) (e15 q1) ?_
    refine r_goto (tgt := 49) dX0_usefulRights_29 (by decide) ?_
    refine r_lstore_nL [some (.ref l0), some (.int l1), some (.int x1), some (.long x6), none] dX0_usefulRights_49 (by decide) rfl ?_
    refine r_aload_n dX0_usefulRights_50 rfl ?_
    refine r_getR (c := 0) (k := 0) dX0_usefulRights_51 rfl rfl (by decide) fl_RX0_9 (c2) rfl (c8) ?_
    refine r_iconst (v := 0) dX0_usefulRights_54 (by decide) ?_
    refine r_iload_n dX0_usefulRights_55 rfl ?_
    refine r_callV1 (c := 1) (mc := 0) (ms := 0) dX0_usefulRights_56 ck_X1_across iv_X1_across sl_X1_across lk_RX0_85 rfl rfl (c10) (by decide) (by decide) (As := [.int 0, .int l1]) rfl rfl (Nat.le_of_ble_eq_true rfl) (Or.inl rfl) (Or.inl rfl) (e16 q1) ?_
    refine r_lload_n dX0_usefulRights_59 rfl ?_
    refine r_land dX0_usefulRights_60 ?_
    exact r_lreturn dX0_usefulRights_61 rfl (k17 q1)

set_option maxRecDepth 20000 in
set_option maxHeartbeats 2000000 in
theorem s_X0_findReached_0 {G : GG} {nc ns : Nat} {h : PH} {Z : Option Value → PH → Prop} {l0 : Nat} {x1 : Int32} {x2 : Int64}
    (c1 : hK h l0 = 10)
    (c2 : (hR h l0 0) ≠ 0)
    (e3 : Ev G m_X1_sizeOf [.ref (hR h l0 0), .int 0] h 0 0 (Ret (some (.int x1)) h))
    (c4 : hK h (hR h l0 0) = 11)
    (c5 : (hR h l0 1) ≠ 0)
    (e6 : Ev G m_X3_nodesOfPart [.ref (hR h l0 1), .int 0, .int 1] h 0 0 (Ret (some (.long x2)) h))
    (c7 : hK h (hR h l0 1) = 13)
    (k8 : RR G nc ns m_X0_findReached 22 [some (.ref l0), some (.int x1), some (.long x2), none, some (.int 0), none] [] h Z) :
    RR G nc ns m_X0_findReached 0 [some (.ref l0), none, none, none, none, none] [] h Z := by
  refine r_aload_n dX0_findReached_0 rfl ?_
  refine r_getR (c := 0) (k := 0) dX0_findReached_1 rfl rfl (by decide) fl_RX0_9 (c1) rfl (c2) ?_
  refine r_iconst (v := 0) dX0_findReached_4 (by decide) ?_
  refine r_callV1 (c := 1) (mc := 0) (ms := 0) dX0_findReached_5 ck_X1_sizeOf iv_X1_sizeOf sl_X1_sizeOf lk_RX0_88 rfl rfl (c4) (by decide) (by decide) (As := [.int 0]) rfl rfl (Nat.le_of_ble_eq_true rfl) (Or.inl rfl) (Or.inl rfl) (e3) ?_
  refine r_istore_nL [some (.ref l0), some (.int x1), none, none, none, none] dX0_findReached_8 (by decide) rfl ?_
  refine r_aload_n dX0_findReached_9 rfl ?_
  refine r_getR (c := 0) (k := 1) dX0_findReached_10 rfl rfl (by decide) fl_RX0_15 (c1) rfl (c5) ?_
  refine r_iconst (v := 0) dX0_findReached_13 (by decide) ?_
  refine r_iconst (v := 1) dX0_findReached_14 (by decide) ?_
  refine r_callV1 (c := 3) (mc := 0) (ms := 0) dX0_findReached_15 ck_X3_nodesOfPart iv_X3_nodesOfPart sl_X3_nodesOfPart lk_RX0_81 rfl rfl (c7) (by decide) (by decide) (As := [.int 0, .int 1]) rfl rfl (Nat.le_of_ble_eq_true rfl) (Or.inl rfl) (Or.inl rfl) (e6) ?_
  refine r_lstore_nL [some (.ref l0), some (.int x1), some (.long x2), none, none, none] dX0_findReached_18 (by decide) rfl ?_
  refine r_iconst (v := 0) dX0_findReached_19 (by decide) ?_
  refine r_istoreL [some (.ref l0), some (.int x1), some (.long x2), none, some (.int 0), none] dX0_findReached_20 (by decide) rfl ?_
  exact k8

set_option maxRecDepth 20000 in
set_option maxHeartbeats 2000000 in
theorem s_X0_findReached_22 {G : GG} {nc ns : Nat} {h : PH} {Z : Option Value → PH → Prop} {l0 : Nat} {l1 : Int32} {l2 : Int64} {l4 : Int32} {x1 : Int32} {x2 : Int64} {x3 : Int64}
    (k1 : (l1 ≤ l4) → RR G nc ns m_X0_findReached 77 [some (.ref l0), some (.int l1), some (.long l2), none, some (.int 0), none] [] h Z)
    (c2 : hK h l0 = 10)
    (c3 : (hR h l0 2) ≠ 0)
    (e4 : (¬ l1 ≤ l4) → Ev G m_X5_contains [.long l2, .int l4] h 0 0 (Ret (some (.int x1)) h))
    (c5 : hK h (hR h l0 2) = 3)
    (c6 : (¬ l1 ≤ l4) → (x1 = 0) → vp_in l4 (hL h (hR h l0 2)))
    (k7 : (¬ l1 ≤ l4) → (x1 = 0) → RR G nc ns m_X0_findReached 22 [some (.ref l0), some (.int l1), some (.long l2), none, some (.int (l4 + 1)), none] [] (sJ h (hR h l0 2) (Int32.toNatClampNeg l4) 0) Z)
    (c8 : (hR h l0 1) ≠ 0)
    (c9 : (hR h l0 0) ≠ 0)
    (e10 : (¬ l1 ≤ l4) → (¬ x1 = 0) → Ev G m_X1_across [.ref (hR h l0 0), .int 0, .int l4] h 0 0 (Ret (some (.long x2)) h))
    (c11 : hK h (hR h l0 0) = 11)
    (e12 : (¬ l1 ≤ l4) → (¬ x1 = 0) → Ev G m_X3_matesOf [.ref (hR h l0 1), .int 1, .long x2] h 0 0 (Ret (some (.long x3)) h))
    (c13 : hK h (hR h l0 1) = 13)
    (c14 : (¬ l1 ≤ l4) → (¬ x1 = 0) → vp_in l4 (hL h (hR h l0 2)))
    (k15 : (¬ l1 ≤ l4) → (¬ x1 = 0) → RR G nc ns m_X0_findReached 22 [some (.ref l0), some (.int l1), some (.long l2), none, some (.int (l4 + 1)), none] [] (sJ h (hR h l0 2) (Int32.toNatClampNeg l4) (x3 &&& l2)) Z) :
    RR G nc ns m_X0_findReached 22 [some (.ref l0), some (.int l1), some (.long l2), none, some (.int l4), none] [] h Z := by
  refine r_iload dX0_findReached_22 rfl ?_
  refine r_iload_n dX0_findReached_24 rfl ?_
  refine r_icmp_ge 74 dX0_findReached_25 (by decide) (fun q1 => ?_) (fun q1 => ?_)
  · refine r_iconst (v := 0) dX0_findReached_74 (by decide) ?_
    refine r_istoreL [some (.ref l0), some (.int l1), some (.long l2), none, some (.int 0), none] dX0_findReached_75 (by decide) rfl ?_
    exact k1 q1
  · refine r_aload_n dX0_findReached_28 rfl ?_
    refine r_getR (c := 0) (k := 2) dX0_findReached_29 rfl rfl (by decide) fl_RX0_19 (c2) rfl (c3) ?_
    refine r_iload dX0_findReached_32 rfl ?_
    refine r_lload_n dX0_findReached_34 rfl ?_
    refine r_iload dX0_findReached_35 rfl ?_
    refine r_callSN1 (mc := 0) (ms := 0) dX0_findReached_37 ck_X5_contains sv_X5_contains lk_RX0_92 (by decide) (by decide) (As := [.long l2, .int l4]) rfl rfl (Nat.le_of_ble_eq_true rfl) (Or.inl rfl) (Or.inl rfl) (e4 q1) ?_
    refine r_if_eq 66 dX0_findReached_40 (by decide) (fun q2 => ?_) (fun q2 => ?_)
    · refine r_lconst (v := 0) dX0_findReached_66 (by decide) ?_
      refine r_lastoreJ (Int32.toNatClampNeg l4) dX0_findReached_67 (c5) (c6 q1 q2) rfl ?_
      refine r_iincL (v := l4 + 1) [some (.ref l0), some (.int l1), some (.long l2), none, some (.int (l4 + 1)), none] dX0_findReached_68 rfl (by decide) rfl rfl ?_
      refine r_goto (tgt := 22) dX0_findReached_71 (by decide) ?_
      exact k7 q1 q2
    · refine r_aload_n dX0_findReached_43 rfl ?_
      refine r_getR (c := 0) (k := 1) dX0_findReached_44 rfl rfl (by decide) fl_RX0_15 (c2) rfl (c8) ?_
      refine r_iconst (v := 1) dX0_findReached_47 (by decide) ?_
      refine r_aload_n dX0_findReached_48 rfl ?_
      refine r_getR (c := 0) (k := 0) dX0_findReached_49 rfl rfl (by decide) fl_RX0_9 (c2) rfl (c9) ?_
      refine r_iconst (v := 0) dX0_findReached_52 (by decide) ?_
      refine r_iload dX0_findReached_53 rfl ?_
      refine r_callV1 (c := 1) (mc := 0) (ms := 0) dX0_findReached_55 ck_X1_across iv_X1_across sl_X1_across lk_RX0_85 rfl rfl (c11) (by decide) (by decide) (As := [.int 0, .int l4]) rfl rfl (Nat.le_of_ble_eq_true rfl) (Or.inl rfl) (Or.inl rfl) (e10 q1 q2) ?_
      refine r_callV1 (c := 3) (mc := 0) (ms := 0) dX0_findReached_58 ck_X3_matesOf iv_X3_matesOf sl_X3_matesOf lk_RX0_74 rfl rfl (c13) (by decide) (by decide) (As := [.int 1, .long x2]) rfl rfl (Nat.le_of_ble_eq_true rfl) (Or.inl rfl) (Or.inl rfl) (e12 q1 q2) ?_
      refine r_lload_n dX0_findReached_61 rfl ?_
      refine r_land dX0_findReached_62 ?_
      refine r_goto (tgt := 67) dX0_findReached_63 (by decide) ?_
      refine r_lastoreJ (Int32.toNatClampNeg l4) dX0_findReached_67 (c5) (c14 q1 q2) rfl ?_
      refine r_iincL (v := l4 + 1) [some (.ref l0), some (.int l1), some (.long l2), none, some (.int (l4 + 1)), none] dX0_findReached_68 rfl (by decide) rfl rfl ?_
      refine r_goto (tgt := 22) dX0_findReached_71 (by decide) ?_
      exact k15 q1 q2

set_option maxRecDepth 20000 in
set_option maxHeartbeats 2000000 in
theorem s_X0_findReached_77 {G : GG} {nc ns : Nat} {h : PH} {Z : Option Value → PH → Prop} {l0 : Nat} {l1 : Int32} {l2 : Int64} {l4 : Int32}
    (k1 : (l1 ≤ l4) → Z none h)
    (k2 : (¬ l1 ≤ l4) → RR G nc ns m_X0_findReached 86 [some (.ref l0), some (.int l1), some (.long l2), none, some (.int l4), some (.int 0)] [] h Z) :
    RR G nc ns m_X0_findReached 77 [some (.ref l0), some (.int l1), some (.long l2), none, some (.int l4), none] [] h Z := by
  refine r_iload dX0_findReached_77 rfl ?_
  refine r_iload_n dX0_findReached_79 rfl ?_
  refine r_icmp_ge 136 dX0_findReached_80 (by decide) (fun q1 => ?_) (fun q1 => ?_)
  · exact r_return dX0_findReached_136 rfl (k1 q1)
  · refine r_iconst (v := 0) dX0_findReached_83 (by decide) ?_
    refine r_istoreL [some (.ref l0), some (.int l1), some (.long l2), none, some (.int l4), some (.int 0)] dX0_findReached_84 (by decide) rfl ?_
    exact k2 q1

set_option maxRecDepth 20000 in
set_option maxHeartbeats 2000000 in
theorem s_X0_findReached_86 {G : GG} {nc ns : Nat} {h : PH} {Z : Option Value → PH → Prop} {l0 : Nat} {l1 : Int32} {l2 : Int64} {l4 : Int32} {l5 : Int32} {x1 : Int32}
    (k1 : (l1 ≤ l5) → RR G nc ns m_X0_findReached 77 [some (.ref l0), some (.int l1), some (.long l2), none, some (.int (l4 + 1)), none] [] h Z)
    (c2 : hK h l0 = 10)
    (c3 : (hR h l0 2) ≠ 0)
    (c4 : hK h (hR h l0 2) = 3)
    (c5 : (¬ l1 ≤ l5) → vp_in l5 (hL h (hR h l0 2)))
    (e6 : (¬ l1 ≤ l5) → Ev G m_X5_contains [.long (hJ h (hR h l0 2) (Int32.toNatClampNeg l5)), .int l4] h 0 0 (Ret (some (.int x1)) h))
    (k7 : (¬ l1 ≤ l5) → (x1 = 0) → RR G nc ns m_X0_findReached 86 [some (.ref l0), some (.int l1), some (.long l2), none, some (.int l4), some (.int (l5 + 1))] [] h Z)
    (c8 : (¬ l1 ≤ l5) → (¬ x1 = 0) → vp_in l4 (hL h (hR h l0 2)))
    (k9 : (¬ l1 ≤ l5) → (¬ x1 = 0) → RR G nc ns m_X0_findReached 86 [some (.ref l0), some (.int l1), some (.long l2), none, some (.int l4), some (.int (l5 + 1))] [] (sJ h (hR h l0 2) (Int32.toNatClampNeg l5) ((hJ h (hR h l0 2) (Int32.toNatClampNeg l5)) ||| (hJ h (hR h l0 2) (Int32.toNatClampNeg l4)))) Z) :
    RR G nc ns m_X0_findReached 86 [some (.ref l0), some (.int l1), some (.long l2), none, some (.int l4), some (.int l5)] [] h Z := by
  refine r_iload dX0_findReached_86 rfl ?_
  refine r_iload_n dX0_findReached_88 rfl ?_
  refine r_icmp_ge 130 dX0_findReached_89 (by decide) (fun q1 => ?_) (fun q1 => ?_)
  · refine r_iincL (v := l4 + 1) [some (.ref l0), some (.int l1), some (.long l2), none, some (.int (l4 + 1)), some (.int l5)] dX0_findReached_130 rfl (by decide) rfl rfl ?_
    refine r_goto (tgt := 77) dX0_findReached_133 (by decide) ?_
    exact RR.sub (k1 q1) (And.intro rfl (And.intro rfl (And.intro rfl (And.intro rfl (trivial)))))
  · refine r_aload_n dX0_findReached_92 rfl ?_
    refine r_getR (c := 0) (k := 2) dX0_findReached_93 rfl rfl (by decide) fl_RX0_19 (c2) rfl (c3) ?_
    refine r_iload dX0_findReached_96 rfl ?_
    refine r_laloadJ (Int32.toNatClampNeg l5) dX0_findReached_98 (c4) (c5 q1) rfl ?_
    refine r_iload dX0_findReached_99 rfl ?_
    refine r_callSN1 (mc := 0) (ms := 0) dX0_findReached_101 ck_X5_contains sv_X5_contains lk_RX0_92 (by decide) (by decide) (As := [.long (hJ h (hR h l0 2) (Int32.toNatClampNeg l5)), .int l4]) rfl rfl (Nat.le_of_ble_eq_true rfl) (Or.inl rfl) (Or.inl rfl) (e6 q1) ?_
    refine r_if_eq 124 dX0_findReached_104 (by decide) (fun q2 => ?_) (fun q2 => ?_)
    · refine r_iincL (v := l5 + 1) [some (.ref l0), some (.int l1), some (.long l2), none, some (.int l4), some (.int (l5 + 1))] dX0_findReached_124 rfl (by decide) rfl rfl ?_
      refine r_goto (tgt := 86) dX0_findReached_127 (by decide) ?_
      exact k7 q1 q2
    · refine r_aload_n dX0_findReached_107 rfl ?_
      refine r_getR (c := 0) (k := 2) dX0_findReached_108 rfl rfl (by decide) fl_RX0_19 (c2) rfl (c3) ?_
      refine r_iload dX0_findReached_111 rfl ?_
      refine r_dup2 dX0_findReached_113 rfl rfl ?_
      refine r_laloadJ (Int32.toNatClampNeg l5) dX0_findReached_114 (c4) (c5 q1) rfl ?_
      refine r_aload_n dX0_findReached_115 rfl ?_
      refine r_getR (c := 0) (k := 2) dX0_findReached_116 rfl rfl (by decide) fl_RX0_19 (c2) rfl (c3) ?_
      refine r_iload dX0_findReached_119 rfl ?_
      refine r_laloadJ (Int32.toNatClampNeg l4) dX0_findReached_121 (c4) (c8 q1 q2) rfl ?_
      refine r_lor dX0_findReached_122 ?_
      refine r_lastoreJ (Int32.toNatClampNeg l5) dX0_findReached_123 (c4) (c5 q1) rfl ?_
      refine r_iincL (v := l5 + 1) [some (.ref l0), some (.int l1), some (.long l2), none, some (.int l4), some (.int (l5 + 1))] dX0_findReached_124 rfl (by decide) rfl rfl ?_
      refine r_goto (tgt := 86) dX0_findReached_127 (by decide) ?_
      exact k9 q1 q2

set_option maxRecDepth 20000 in
set_option maxHeartbeats 2000000 in
theorem s_X0_numberAll_0 {G : GG} {nc ns : Nat} {h : PH} {Z : Option Value → PH → Prop} {l0 : Nat} {P1 : PH → Prop}
    (c1 : hK h l0 = 10)
    (c2 : (hR h l0 3) ≠ 0)
    (e3 : Ev G m_J7_fill_53178 [.ref (hR h l0 3), .int (-3)] h 0 0 (RV P1))
    (k4 : ∀ (h1 : PH), P1 h1 → hN h1 = (hN h) → hS h1 = (hS h) → RR G nc ns m_X0_numberAll 9 [some (.ref l0), none, none, none] [] h1 Z) :
    RR G nc ns m_X0_numberAll 0 [some (.ref l0), none, none, none] [] h Z := by
  refine r_aload_n dX0_numberAll_0 rfl ?_
  refine r_getR (c := 0) (k := 3) dX0_numberAll_1 rfl rfl (by decide) fl_RX0_23 (c1) rfl (c2) ?_
  refine r_bipush (v := (-3)) dX0_numberAll_4 (by decide) ?_
  refine r_callS (mc := 0) (ms := 0) dX0_numberAll_6 ck_J7_fill_53178 sv_J7_fill_53178 lk_RX0_96 (by decide) (by decide) (As := [.ref (hR h l0 3), .int (-3)]) rfl rfl (Nat.le_of_ble_eq_true rfl) (Or.inl rfl) (Or.inl rfl) (e3) ?_
  rintro v1 h1 ⟨rfl, z1⟩ n1 t1
  exact k4 h1 z1 n1 t1

set_option maxRecDepth 20000 in
set_option maxHeartbeats 2000000 in
theorem s_X0_numberAll_9 {G : GG} {nc ns : Nat} {h : PH} {Z : Option Value → PH → Prop} {l0 : Nat} {x1 : Int64}
    (c1 : hK h l0 = 10)
    (c2 : (hR h l0 1) ≠ 0)
    (e3 : Ev G m_X3_nodesOfPart [.ref (hR h l0 1), .int 0, .int 1] (sI h l0 6 0) 0 0 (Ret (some (.long x1)) (sI h l0 6 0)))
    (c4 : hK h (hR h l0 1) = 13)
    (k5 : RR G nc ns m_X0_numberAll 26 [some (.ref l0), some (.long x1), none, some (.int 0)] [] (sI h l0 6 0) Z) :
    RR G nc ns m_X0_numberAll 9 [some (.ref l0), none, none, none] [] h Z := by
  refine r_aload_n dX0_numberAll_9 rfl ?_
  refine r_iconst (v := 0) dX0_numberAll_10 (by decide) ?_
  refine r_putI (c := 0) (k := 6) dX0_numberAll_11 rfl rfl (by decide) fl_RX0_33 (c1) (Or.inl rfl) (Or.inl rfl) ?_
  refine r_aload_n dX0_numberAll_14 rfl ?_
  refine r_getR (c := 0) (k := 1) dX0_numberAll_15 rfl rfl (by decide) fl_RX0_15 (c1) rfl (c2) ?_
  refine r_iconst (v := 0) dX0_numberAll_18 (by decide) ?_
  refine r_iconst (v := 1) dX0_numberAll_19 (by decide) ?_
  refine r_callV1 (c := 3) (mc := 0) (ms := 0) dX0_numberAll_20 ck_X3_nodesOfPart iv_X3_nodesOfPart sl_X3_nodesOfPart lk_RX0_81 rfl rfl (c4) (by decide) (by decide) (As := [.int 0, .int 1]) rfl rfl (Nat.le_of_ble_eq_true rfl) (Or.inl rfl) (Or.inl rfl) (e3) ?_
  refine r_lstore_nL [some (.ref l0), some (.long x1), none, none] dX0_numberAll_23 (by decide) rfl ?_
  refine r_iconst (v := 0) dX0_numberAll_24 (by decide) ?_
  refine r_istore_nL [some (.ref l0), some (.long x1), none, some (.int 0)] dX0_numberAll_25 (by decide) rfl ?_
  exact k5

set_option maxRecDepth 20000 in
set_option maxHeartbeats 2000000 in
theorem s_X0_numberAll_26 {G : GG} {nc ns : Nat} {h : PH} {Z : Option Value → PH → Prop} {l0 : Nat} {l1 : Int64} {l3 : Int32} {x1 : Int32} {x2 : Int32} {P3 : Int64 → PH → Prop}
    (c1 : hK h l0 = 10)
    (c2 : (hR h l0 0) ≠ 0)
    (e3 : Ev G m_X1_sizeOf [.ref (hR h l0 0), .int 0] h 0 0 (Ret (some (.int x1)) h))
    (c4 : hK h (hR h l0 0) = 11)
    (k5 : (x1 ≤ l3) → Z none h)
    (e6 : (¬ x1 ≤ l3) → Ev G m_X5_contains [.long l1, .int l3] h 0 0 (Ret (some (.int x2)) h))
    (k7 : (¬ x1 ≤ l3) → (x2 = 0) → RR G nc ns m_X0_numberAll 26 [some (.ref l0), some (.long l1), none, some (.int (l3 + 1))] [] h Z)
    (c8 : (hR h l0 3) ≠ 0)
    (c9 : hK h (hR h l0 3) = 2)
    (c10 : (¬ x1 ≤ l3) → (¬ x2 = 0) → vp_in l3 (hL h (hR h l0 3)))
    (k11 : (¬ x1 ≤ l3) → (¬ x2 = 0) → (¬ (hI h (hR h l0 3) (Int32.toNatClampNeg l3)) = (-3)) → RR G nc ns m_X0_numberAll 26 [some (.ref l0), some (.long l1), none, some (.int (l3 + 1))] [] h Z)
    (c12 : (hR h l0 4) ≠ 0)
    (c13 : ((ak (hK h (hR h l0 4))).isSome = true ∨ hK h (hR h l0 4) = 1))
    (k14 : (¬ x1 ≤ l3) → (¬ x2 = 0) → ((hI h (hR h l0 3) (Int32.toNatClampNeg l3)) = (-3)) → ((nI (hL h (hR h l0 4))) ≤ (hI h l0 6)) → RR G nc ns m_X0_numberAll 26 [some (.ref l0), some (.long l1), none, some (.int (l3 + 1))] [] h Z)
    (e15 : (¬ x1 ≤ l3) → (¬ x2 = 0) → ((hI h (hR h l0 3) (Int32.toNatClampNeg l3)) = (-3)) → (¬ (nI (hL h (hR h l0 4))) ≤ (hI h l0 6)) → Ev G m_X0_gather [.ref l0, .int l3] h 0 0 (RJ P3))
    (k16 : (¬ x1 ≤ l3) → (¬ x2 = 0) → ((hI h (hR h l0 3) (Int32.toNatClampNeg l3)) = (-3)) → (¬ (nI (hL h (hR h l0 4))) ≤ (hI h l0 6)) → ∀ (x3 : Int64) (h3 : PH), P3 x3 h3 → hN h3 = (hN h) → hS h3 = (hS h) → RR G nc ns m_X0_numberAll 82 [some (.ref l0), some (.long l1), none, some (.int l3)] [.long x3, .int (hI h l0 6), .ref (hR h l0 4)] h3 Z) :
    RR G nc ns m_X0_numberAll 26 [some (.ref l0), some (.long l1), none, some (.int l3)] [] h Z := by
  refine r_iload_n dX0_numberAll_26 rfl ?_
  refine r_aload_n dX0_numberAll_27 rfl ?_
  refine r_getR (c := 0) (k := 0) dX0_numberAll_28 rfl rfl (by decide) fl_RX0_9 (c1) rfl (c2) ?_
  refine r_iconst (v := 0) dX0_numberAll_31 (by decide) ?_
  refine r_callV1 (c := 1) (mc := 0) (ms := 0) dX0_numberAll_32 ck_X1_sizeOf iv_X1_sizeOf sl_X1_sizeOf lk_RX0_88 rfl rfl (c4) (by decide) (by decide) (As := [.int 0]) rfl rfl (Nat.le_of_ble_eq_true rfl) (Or.inl rfl) (Or.inl rfl) (e3) ?_
  refine r_icmp_ge 114 dX0_numberAll_35 (by decide) (fun q1 => ?_) (fun q1 => ?_)
  · exact r_return dX0_numberAll_114 rfl (k5 q1)
  · refine r_lload_n dX0_numberAll_38 rfl ?_
    refine r_iload_n dX0_numberAll_39 rfl ?_
    refine r_callSN1 (mc := 0) (ms := 0) dX0_numberAll_40 ck_X5_contains sv_X5_contains lk_RX0_92 (by decide) (by decide) (As := [.long l1, .int l3]) rfl rfl (Nat.le_of_ble_eq_true rfl) (Or.inl rfl) (Or.inl rfl) (e6 q1) ?_
    refine r_if_eq 108 dX0_numberAll_43 (by decide) (fun q2 => ?_) (fun q2 => ?_)
    · refine r_iincL (v := l3 + 1) [some (.ref l0), some (.long l1), none, some (.int (l3 + 1))] dX0_numberAll_108 rfl (by decide) rfl rfl ?_
      refine r_goto (tgt := 26) dX0_numberAll_111 (by decide) ?_
      exact k7 q1 q2
    · refine r_aload_n dX0_numberAll_46 rfl ?_
      refine r_getR (c := 0) (k := 3) dX0_numberAll_47 rfl rfl (by decide) fl_RX0_23 (c1) rfl (c8) ?_
      refine r_iload_n dX0_numberAll_50 rfl ?_
      refine r_ialoadJ (Int32.toNatClampNeg l3) dX0_numberAll_51 (c9) (c10 q1 q2) rfl ?_
      refine r_bipush (v := (-3)) dX0_numberAll_52 (by decide) ?_
      refine r_icmp_ne 108 dX0_numberAll_54 (by decide) (fun q3 => ?_) (fun q3 => ?_)
      · refine r_iincL (v := l3 + 1) [some (.ref l0), some (.long l1), none, some (.int (l3 + 1))] dX0_numberAll_108 rfl (by decide) rfl rfl ?_
        refine r_goto (tgt := 26) dX0_numberAll_111 (by decide) ?_
        exact k11 q1 q2 q3
      · refine r_aload_n dX0_numberAll_57 rfl ?_
        refine r_get (c := 0) (k := 6) dX0_numberAll_58 rfl rfl (by decide) fl_RX0_33 (c1) rfl ?_
        refine r_aload_n dX0_numberAll_61 rfl ?_
        refine r_getR (c := 0) (k := 4) dX0_numberAll_62 rfl rfl (by decide) fl_RX0_27 (c1) rfl (c12) ?_
        refine r_alen dX0_numberAll_65 (c13) ?_
        refine r_icmp_ge 108 dX0_numberAll_66 (by decide) (fun q4 => ?_) (fun q4 => ?_)
        · refine r_iincL (v := l3 + 1) [some (.ref l0), some (.long l1), none, some (.int (l3 + 1))] dX0_numberAll_108 rfl (by decide) rfl rfl ?_
          refine r_goto (tgt := 26) dX0_numberAll_111 (by decide) ?_
          exact k14 q1 q2 q3 q4
        · refine r_aload_n dX0_numberAll_69 rfl ?_
          refine r_getR (c := 0) (k := 4) dX0_numberAll_70 rfl rfl (by decide) fl_RX0_27 (c1) rfl (c12) ?_
          refine r_aload_n dX0_numberAll_73 rfl ?_
          refine r_get (c := 0) (k := 6) dX0_numberAll_74 rfl rfl (by decide) fl_RX0_33 (c1) rfl ?_
          refine r_aload_n dX0_numberAll_77 rfl ?_
          refine r_iload_n dX0_numberAll_78 rfl ?_
          refine r_callV (c := 0) (mc := 0) (ms := 0) dX0_numberAll_79 ck_X0_gather iv_X0_gather sl_X0_gather lk_RX0_102 rfl rfl (c1) (by decide) (by decide) (As := [.int l3]) rfl rfl (Nat.le_of_ble_eq_true rfl) (Or.inl rfl) (Or.inl rfl) (e15 q1 q2 q3 q4) ?_
          rintro v3 h3 ⟨x3, rfl, z3⟩ n3 t3
          exact k16 q1 q2 q3 q4 x3 h3 z3 n3 t3

set_option maxRecDepth 20000 in
set_option maxHeartbeats 2000000 in
theorem s_X0_numberAll_82 {G : GG} {nc ns : Nat} {h : PH} {Z : Option Value → PH → Prop} {l0 : Nat} {l1 : Int64} {l3 : Int32} {s0 : Nat} {s1 : Int32} {s2 : Int64}
    (c1 : hK h s0 = 3)
    (c2 : vp_in s1 (hL h s0))
    (c3 : hK h l0 = 10)
    (c4 : (hR h l0 5) ≠ 0)
    (c5 : (hR h l0 2) ≠ 0)
    (c6 : hK h (hR h l0 2) = 3)
    (c7 : vp_in l3 (hL h (hR h l0 2)))
    (c8 : hK h (hR h l0 5) = 3)
    (c9 : vp_in (hI h l0 6) (hL h (hR h l0 5)))
    (k10 : RR G nc ns m_X0_numberAll 26 [some (.ref l0), some (.long l1), none, some (.int (l3 + 1))] [] (sI (sJ (sJ h s0 (Int32.toNatClampNeg s1) s2) (hR h l0 5) (Int32.toNatClampNeg (hI h l0 6)) (hJ (sJ h s0 (Int32.toNatClampNeg s1) s2) (hR h l0 2) (Int32.toNatClampNeg l3))) l0 6 ((hI h l0 6) + 1)) Z) :
    RR G nc ns m_X0_numberAll 82 [some (.ref l0), some (.long l1), none, some (.int l3)] [.long s2, .int s1, .ref s0] h Z := by
  refine r_lastoreJ (Int32.toNatClampNeg s1) dX0_numberAll_82 (c1) (c2) rfl ?_
  refine r_aload_n dX0_numberAll_83 rfl ?_
  refine r_getR (c := 0) (k := 5) dX0_numberAll_84 rfl rfl (by decide) fl_RX0_30 (c3) rfl (c4) ?_
  refine r_aload_n dX0_numberAll_87 rfl ?_
  refine r_get (c := 0) (k := 6) dX0_numberAll_88 rfl rfl (by decide) fl_RX0_33 (c3) rfl ?_
  refine r_aload_n dX0_numberAll_91 rfl ?_
  refine r_getR (c := 0) (k := 2) dX0_numberAll_92 rfl rfl (by decide) fl_RX0_19 (c3) rfl (c5) ?_
  refine r_iload_n dX0_numberAll_95 rfl ?_
  refine r_laloadJ (Int32.toNatClampNeg l3) dX0_numberAll_96 (c6) (c7) rfl ?_
  refine r_lastoreJ (Int32.toNatClampNeg (hI h l0 6)) dX0_numberAll_97 (c8) (c9) rfl ?_
  refine r_aload_n dX0_numberAll_98 rfl ?_
  refine r_dup dX0_numberAll_99 rfl ?_
  refine r_get (c := 0) (k := 6) dX0_numberAll_100 rfl rfl (by decide) fl_RX0_33 (c3) rfl ?_
  refine r_iconst (v := 1) dX0_numberAll_103 (by decide) ?_
  refine r_iadd dX0_numberAll_104 ?_
  refine r_putI (c := 0) (k := 6) dX0_numberAll_105 rfl rfl (by decide) fl_RX0_33 (c3) (Or.inl rfl) (Or.inl rfl) ?_
  refine r_iincL (v := l3 + 1) [some (.ref l0), some (.long l1), none, some (.int (l3 + 1))] dX0_numberAll_108 rfl (by decide) rfl rfl ?_
  refine r_goto (tgt := 26) dX0_numberAll_111 (by decide) ?_
  exact k10

set_option maxRecDepth 20000 in
set_option maxHeartbeats 2000000 in
theorem s_X0_gather_0 {G : GG} {nc ns : Nat} {h : PH} {Z : Option Value → PH → Prop} {l0 : Nat} {l1 : Int32}
    (k1 : RR G nc ns m_X0_gather 5 [some (.ref l0), some (.int l1), some (.long 0), none, some (.int 0)] [] h Z) :
    RR G nc ns m_X0_gather 0 [some (.ref l0), some (.int l1), none, none, none] [] h Z := by
  refine r_lconst (v := 0) dX0_gather_0 (by decide) ?_
  refine r_lstore_nL [some (.ref l0), some (.int l1), some (.long 0), none, none] dX0_gather_1 (by decide) rfl ?_
  refine r_iconst (v := 0) dX0_gather_2 (by decide) ?_
  refine r_istoreL [some (.ref l0), some (.int l1), some (.long 0), none, some (.int 0)] dX0_gather_3 (by decide) rfl ?_
  exact k1

set_option maxRecDepth 20000 in
set_option maxHeartbeats 2000000 in
theorem s_X0_gather_5 {G : GG} {nc ns : Nat} {h : PH} {Z : Option Value → PH → Prop} {l0 : Nat} {l1 : Int32} {l2 : Int64} {l4 : Int32} {x1 : Int32} {x2 : Int32} {x3 : Int32}
    (c1 : hK h l0 = 10)
    (c2 : (hR h l0 0) ≠ 0)
    (e3 : Ev G m_X1_sizeOf [.ref (hR h l0 0), .int 0] h 0 0 (Ret (some (.int x1)) h))
    (c4 : hK h (hR h l0 0) = 11)
    (k5 : (x1 ≤ l4) → Z (some (.long l2)) h)
    (c6 : (hR h l0 2) ≠ 0)
    (c7 : hK h (hR h l0 2) = 3)
    (c8 : (¬ x1 ≤ l4) → vp_in l1 (hL h (hR h l0 2)))
    (e9 : (¬ x1 ≤ l4) → Ev G m_X5_contains [.long (hJ h (hR h l0 2) (Int32.toNatClampNeg l1)), .int l4] h 0 0 (Ret (some (.int x2)) h))
    (k10 : (¬ x1 ≤ l4) → (x2 = 0) → RR G nc ns m_X0_gather 5 [some (.ref l0), some (.int l1), some (.long l2), none, some (.int (l4 + 1))] [] h Z)
    (c11 : (¬ x1 ≤ l4) → (¬ x2 = 0) → vp_in l4 (hL h (hR h l0 2)))
    (e12 : (¬ x1 ≤ l4) → (¬ x2 = 0) → Ev G m_X5_contains [.long (hJ h (hR h l0 2) (Int32.toNatClampNeg l4)), .int l1] h 0 0 (Ret (some (.int x3)) h))
    (k13 : (¬ x1 ≤ l4) → (¬ x2 = 0) → (x3 = 0) → RR G nc ns m_X0_gather 5 [some (.ref l0), some (.int l1), some (.long l2), none, some (.int (l4 + 1))] [] h Z)
    (c14 : (hR h l0 3) ≠ 0)
    (c15 : hK h (hR h l0 3) = 2)
    (c16 : (¬ x1 ≤ l4) → (¬ x2 = 0) → (¬ x3 = 0) → vp_in l4 (hL h (hR h l0 3)))
    (k17 : (¬ x1 ≤ l4) → (¬ x2 = 0) → (¬ x3 = 0) → RR G nc ns m_X0_gather 5 [some (.ref l0), some (.int l1), some (.long (l2 ||| (1 <<< (Int32.toInt64 l4 &&& 63)))), none, some (.int (l4 + 1))] [] (sI h (hR h l0 3) (Int32.toNatClampNeg l4) (hI h l0 6)) Z) :
    RR G nc ns m_X0_gather 5 [some (.ref l0), some (.int l1), some (.long l2), none, some (.int l4)] [] h Z := by
  refine r_iload dX0_gather_5 rfl ?_
  refine r_aload_n dX0_gather_7 rfl ?_
  refine r_getR (c := 0) (k := 0) dX0_gather_8 rfl rfl (by decide) fl_RX0_9 (c1) rfl (c2) ?_
  refine r_iconst (v := 0) dX0_gather_11 (by decide) ?_
  refine r_callV1 (c := 1) (mc := 0) (ms := 0) dX0_gather_12 ck_X1_sizeOf iv_X1_sizeOf sl_X1_sizeOf lk_RX0_88 rfl rfl (c4) (by decide) (by decide) (As := [.int 0]) rfl rfl (Nat.le_of_ble_eq_true rfl) (Or.inl rfl) (Or.inl rfl) (e3) ?_
  refine r_icmp_ge 70 dX0_gather_15 (by decide) (fun q1 => ?_) (fun q1 => ?_)
  · refine r_lload_n dX0_gather_70 rfl ?_
    exact r_lreturn dX0_gather_71 rfl (k5 q1)
  · refine r_aload_n dX0_gather_18 rfl ?_
    refine r_getR (c := 0) (k := 2) dX0_gather_19 rfl rfl (by decide) fl_RX0_19 (c1) rfl (c6) ?_
    refine r_iload_n dX0_gather_22 rfl ?_
    refine r_laloadJ (Int32.toNatClampNeg l1) dX0_gather_23 (c7) (c8 q1) rfl ?_
    refine r_iload dX0_gather_24 rfl ?_
    refine r_callSN1 (mc := 0) (ms := 0) dX0_gather_26 ck_X5_contains sv_X5_contains lk_RX0_92 (by decide) (by decide) (As := [.long (hJ h (hR h l0 2) (Int32.toNatClampNeg l1)), .int l4]) rfl rfl (Nat.le_of_ble_eq_true rfl) (Or.inl rfl) (Or.inl rfl) (e9 q1) ?_
    refine r_if_eq 64 dX0_gather_29 (by decide) (fun q2 => ?_) (fun q2 => ?_)
    · refine r_iincL (v := l4 + 1) [some (.ref l0), some (.int l1), some (.long l2), none, some (.int (l4 + 1))] dX0_gather_64 rfl (by decide) rfl rfl ?_
      refine r_goto (tgt := 5) dX0_gather_67 (by decide) ?_
      exact k10 q1 q2
    · refine r_aload_n dX0_gather_32 rfl ?_
      refine r_getR (c := 0) (k := 2) dX0_gather_33 rfl rfl (by decide) fl_RX0_19 (c1) rfl (c6) ?_
      refine r_iload dX0_gather_36 rfl ?_
      refine r_laloadJ (Int32.toNatClampNeg l4) dX0_gather_38 (c7) (c11 q1 q2) rfl ?_
      refine r_iload_n dX0_gather_39 rfl ?_
      refine r_callSN1 (mc := 0) (ms := 0) dX0_gather_40 ck_X5_contains sv_X5_contains lk_RX0_92 (by decide) (by decide) (As := [.long (hJ h (hR h l0 2) (Int32.toNatClampNeg l4)), .int l1]) rfl rfl (Nat.le_of_ble_eq_true rfl) (Or.inl rfl) (Or.inl rfl) (e12 q1 q2) ?_
      refine r_if_eq 64 dX0_gather_43 (by decide) (fun q3 => ?_) (fun q3 => ?_)
      · refine r_iincL (v := l4 + 1) [some (.ref l0), some (.int l1), some (.long l2), none, some (.int (l4 + 1))] dX0_gather_64 rfl (by decide) rfl rfl ?_
        refine r_goto (tgt := 5) dX0_gather_67 (by decide) ?_
        exact k13 q1 q2 q3
      · refine r_lload_n dX0_gather_46 rfl ?_
        refine r_lconst (v := 1) dX0_gather_47 (by decide) ?_
        refine r_iload dX0_gather_48 rfl ?_
        refine r_lshl dX0_gather_50 ?_
        refine r_lor dX0_gather_51 ?_
        refine r_lstore_nL [some (.ref l0), some (.int l1), some (.long (l2 ||| (1 <<< (Int32.toInt64 l4 &&& 63)))), none, some (.int l4)] dX0_gather_52 (by decide) rfl ?_
        refine r_aload_n dX0_gather_53 rfl ?_
        refine r_getR (c := 0) (k := 3) dX0_gather_54 rfl rfl (by decide) fl_RX0_23 (c1) rfl (c14) ?_
        refine r_iload dX0_gather_57 rfl ?_
        refine r_aload_n dX0_gather_59 rfl ?_
        refine r_get (c := 0) (k := 6) dX0_gather_60 rfl rfl (by decide) fl_RX0_33 (c1) rfl ?_
        refine r_iastoreJ (Int32.toNatClampNeg l4) dX0_gather_63 (c15) (c16 q1 q2 q3) rfl ?_
        refine r_iincL (v := l4 + 1) [some (.ref l0), some (.int l1), some (.long (l2 ||| (1 <<< (Int32.toInt64 l4 &&& 63)))), none, some (.int (l4 + 1))] dX0_gather_64 rfl (by decide) rfl rfl ?_
        refine r_goto (tgt := 5) dX0_gather_67 (by decide) ?_
        exact k17 q1 q2 q3

set_option maxRecDepth 20000 in
set_option maxHeartbeats 2000000 in
theorem s_X4_init_0 {G : GG} {nc ns : Nat} {h : PH} {Z : Option Value → PH → Prop} {l0 : Nat} {l1 : Nat} {l2 : Nat}
    (c1 : hK h l0 = 14)
    (c2 : l1 ≠ 0)
    (k3 : RR G nc ns m_X4_init 9 [some (.ref l0), some (.ref l1), some (.ref l2)] [] (sR h l0 0 l1) Z) :
    RR G nc ns m_X4_init 0 [some (.ref l0), some (.ref l1), some (.ref l2)] [] h Z := by
  refine r_aload_n dX4_init_0 rfl ?_
  refine r_objInit dX4_init_1 lk_RX4_3 iv_obj cd_obj (by decide) (by decide) (Nat.le_of_ble_eq_true rfl) ?_
  refine r_aload_n dX4_init_4 rfl ?_
  refine r_aload_n dX4_init_5 rfl ?_
  refine r_putR (c := 4) (k := 0) dX4_init_6 rfl rfl (by decide) fl_RX4_9 (c1) (Or.inr ⟨rfl, rfl, rfl⟩) rfl (c2) ?_
  exact k3

set_option maxRecDepth 20000 in
set_option maxHeartbeats 2000000 in
theorem s_X4_init_9 {G : GG} {nc ns : Nat} {h : PH} {Z : Option Value → PH → Prop} {l0 : Nat} {l1 : Nat} {l2 : Nat}
    (c1 : hK h l0 = 14)
    (c2 : l2 ≠ 0)
    (k3 : RR G nc ns m_X4_init 14 [some (.ref l0), some (.ref l1), some (.ref l2)] [] (sR h l0 1 l2) Z) :
    RR G nc ns m_X4_init 9 [some (.ref l0), some (.ref l1), some (.ref l2)] [] h Z := by
  refine r_aload_n dX4_init_9 rfl ?_
  refine r_aload_n dX4_init_10 rfl ?_
  refine r_putR (c := 4) (k := 1) dX4_init_11 rfl rfl (by decide) fl_RX4_15 (c1) (Or.inr ⟨rfl, rfl, rfl⟩) rfl (c2) ?_
  exact k3

set_option maxRecDepth 20000 in
set_option maxHeartbeats 2000000 in
theorem s_X4_init_14 {G : GG} {nc ns : Nat} {h : PH} {Z : Option Value → PH → Prop} {l0 : Nat} {l1 : Nat} {l2 : Nat}
    (c1 : (hN h) + 1 ≤ nc)
    (c2 : (hS h) + 16 ≤ ns)
    (c3 : hK (nA h 3 16) l0 = 14)
    (c4 : (hN h) ≠ 0)
    (k5 : RR G nc ns m_X4_init 22 [some (.ref l0), some (.ref l1), some (.ref l2)] [] (sR (nA h 3 16) l0 2 (hN h)) Z) :
    RR G nc ns m_X4_init 14 [some (.ref l0), some (.ref l1), some (.ref l2)] [] h Z := by
  refine r_aload_n dX4_init_14 rfl ?_
  refine r_bipush (v := 16) dX4_init_15 (by decide) ?_
  refine r_newarray (kd := 3) (N := 16) dX4_init_17 rfl rfl rfl ac_long (by decide) (by decide) (by decide) (c1) (c2) ?_
  refine r_putR (c := 4) (k := 2) dX4_init_19 rfl rfl (by decide) fl_RX4_19 (c3) (Or.inr ⟨rfl, rfl, rfl⟩) rfl (c4) ?_
  exact k5

set_option maxRecDepth 20000 in
set_option maxHeartbeats 2000000 in
theorem s_X4_init_22 {G : GG} {nc ns : Nat} {h : PH} {Z : Option Value → PH → Prop} {l0 : Nat} {l1 : Nat} {l2 : Nat}
    (c1 : (hN h) + 1 ≤ nc)
    (c2 : (hS h) + 16 ≤ ns)
    (c3 : hK (nA h 2 16) l0 = 14)
    (c4 : (hN h) ≠ 0)
    (k5 : RR G nc ns m_X4_init 30 [some (.ref l0), some (.ref l1), some (.ref l2)] [] (sR (nA h 2 16) l0 3 (hN h)) Z) :
    RR G nc ns m_X4_init 22 [some (.ref l0), some (.ref l1), some (.ref l2)] [] h Z := by
  refine r_aload_n dX4_init_22 rfl ?_
  refine r_bipush (v := 16) dX4_init_23 (by decide) ?_
  refine r_newarray (kd := 2) (N := 16) dX4_init_25 rfl rfl rfl ac_int (by decide) (by decide) (by decide) (c1) (c2) ?_
  refine r_putR (c := 4) (k := 3) dX4_init_27 rfl rfl (by decide) fl_RX4_23 (c3) (Or.inr ⟨rfl, rfl, rfl⟩) rfl (c4) ?_
  exact k5

set_option maxRecDepth 20000 in
set_option maxHeartbeats 2000000 in
theorem s_X4_init_30 {G : GG} {nc ns : Nat} {h : PH} {Z : Option Value → PH → Prop} {l0 : Nat} {l1 : Nat} {l2 : Nat}
    (c1 : (hN h) + 1 ≤ nc)
    (c2 : (hS h) + 1 ≤ ns)
    (c3 : hK (nA h 3 1) l0 = 14)
    (c4 : (hN h) ≠ 0)
    (k5 : RR G nc ns m_X4_init 37 [some (.ref l0), some (.ref l1), some (.ref l2)] [] (sR (nA h 3 1) l0 4 (hN h)) Z) :
    RR G nc ns m_X4_init 30 [some (.ref l0), some (.ref l1), some (.ref l2)] [] h Z := by
  refine r_aload_n dX4_init_30 rfl ?_
  refine r_iconst (v := 1) dX4_init_31 (by decide) ?_
  refine r_newarray (kd := 3) (N := 1) dX4_init_32 rfl rfl rfl ac_long (by decide) (by decide) (by decide) (c1) (c2) ?_
  refine r_putR (c := 4) (k := 4) dX4_init_34 rfl rfl (by decide) fl_RX4_27 (c3) (Or.inl rfl) rfl (c4) ?_
  exact k5

set_option maxRecDepth 20000 in
set_option maxHeartbeats 2000000 in
theorem s_X4_init_37 {G : GG} {nc ns : Nat} {h : PH} {Z : Option Value → PH → Prop} {l0 : Nat} {l1 : Nat} {l2 : Nat}
    (c1 : hK h l0 = 14)
    (k2 : RR G nc ns m_X4_init 42 [some (.ref l0), some (.ref l1), some (.ref l2)] [] (sJ h l0 5 1) Z) :
    RR G nc ns m_X4_init 37 [some (.ref l0), some (.ref l1), some (.ref l2)] [] h Z := by
  refine r_aload_n dX4_init_37 rfl ?_
  refine r_lconst (v := 1) dX4_init_38 (by decide) ?_
  refine r_putJ (c := 4) (k := 5) dX4_init_39 rfl rfl (by decide) fl_RX4_30 (c1) (Or.inl rfl) rfl ?_
  exact k2

set_option maxRecDepth 20000 in
set_option maxHeartbeats 2000000 in
theorem s_X4_init_42 {G : GG} {nc ns : Nat} {h : PH} {Z : Option Value → PH → Prop} {l0 : Nat} {l1 : Nat} {l2 : Nat}
    (c1 : hK h l0 = 14)
    (k2 : RR G nc ns m_X4_init 47 [some (.ref l0), some (.ref l1), some (.ref l2)] [] (sI h l0 6 (-1)) Z) :
    RR G nc ns m_X4_init 42 [some (.ref l0), some (.ref l1), some (.ref l2)] [] h Z := by
  refine r_aload_n dX4_init_42 rfl ?_
  refine r_iconst (v := (-1)) dX4_init_43 (by decide) ?_
  refine r_putI (c := 4) (k := 6) dX4_init_44 rfl rfl (by decide) fl_RX4_34 (c1) (Or.inl rfl) (Or.inl rfl) ?_
  exact k2

set_option maxRecDepth 20000 in
set_option maxHeartbeats 2000000 in
theorem s_X4_init_47 {G : GG} {nc ns : Nat} {h : PH} {Z : Option Value → PH → Prop} {l0 : Nat} {l1 : Nat} {l2 : Nat}
    (k1 : Z none h) :
    RR G nc ns m_X4_init 47 [some (.ref l0), some (.ref l1), some (.ref l2)] [] h Z := by
  exact r_return dX4_init_47 rfl (k1)

set_option maxRecDepth 20000 in
set_option maxHeartbeats 2000000 in
theorem s_X4_refresh_0 {G : GG} {nc ns : Nat} {h : PH} {Z : Option Value → PH → Prop} {l0 : Nat} {x1 : Int32} {x2 : Int32}
    (c1 : hK h l0 = 14)
    (c2 : (hR h l0 0) ≠ 0)
    (e3 : Ev G m_X1_changes [.ref (hR h l0 0)] h 0 0 (Ret (some (.int x1)) h))
    (c4 : hK h (hR h l0 0) = 11)
    (e5 : (¬ (hI h l0 6) = x1) → Ev G m_X1_changes [.ref (hR h l0 0)] h 0 0 (Ret (some (.int x2)) h))
    (k6 : (¬ (hI h l0 6) = x1) → RR G nc ns m_X4_refresh 28 [some (.ref l0), some (.int 0), none, none, none, none] [] (sI h l0 6 x2) Z)
    (k7 : ((hI h l0 6) = x1) → Z none h) :
    RR G nc ns m_X4_refresh 0 [some (.ref l0), none, none, none, none, none] [] h Z := by
  refine r_aload_n dX4_refresh_0 rfl ?_
  refine r_get (c := 4) (k := 6) dX4_refresh_1 rfl rfl (by decide) fl_RX4_34 (c1) rfl ?_
  refine r_aload_n dX4_refresh_4 rfl ?_
  refine r_getR (c := 4) (k := 0) dX4_refresh_5 rfl rfl (by decide) fl_RX4_9 (c1) rfl (c2) ?_
  refine r_callV1 (c := 1) (mc := 0) (ms := 0) dX4_refresh_8 ck_X1_changes iv_X1_changes sl_X1_changes lk_RX4_38 rfl rfl (c4) (by decide) (by decide) (As := []) rfl rfl (Nat.le_of_ble_eq_true rfl) (Or.inl rfl) (Or.inl rfl) (e3) ?_
  refine r_icmp_ne 15 dX4_refresh_11 (by decide) (fun q1 => ?_) (fun q1 => ?_)
  · refine r_aload_n dX4_refresh_15 rfl ?_
    refine r_aload_n dX4_refresh_16 rfl ?_
    refine r_getR (c := 4) (k := 0) dX4_refresh_17 rfl rfl (by decide) fl_RX4_9 (c1) rfl (c2) ?_
    refine r_callV1 (c := 1) (mc := 0) (ms := 0) dX4_refresh_20 ck_X1_changes iv_X1_changes sl_X1_changes lk_RX4_38 rfl rfl (c4) (by decide) (by decide) (As := []) rfl rfl (Nat.le_of_ble_eq_true rfl) (Or.inl rfl) (Or.inl rfl) (e5 q1) ?_
    refine r_putI (c := 4) (k := 6) dX4_refresh_23 rfl rfl (by decide) fl_RX4_34 (c1) (Or.inl rfl) (Or.inl rfl) ?_
    refine r_iconst (v := 0) dX4_refresh_26 (by decide) ?_
    refine r_istore_nL [some (.ref l0), some (.int 0), none, none, none, none] dX4_refresh_27 (by decide) rfl ?_
    exact k6 q1
  · exact r_return dX4_refresh_14 rfl (k7 q1)

set_option maxRecDepth 20000 in
set_option maxHeartbeats 2000000 in
theorem s_X4_refresh_28 {G : GG} {nc ns : Nat} {h : PH} {Z : Option Value → PH → Prop} {l0 : Nat} {l1 : Int32} {x1 : Int32} {x2 : Int64} {x3 : Int64}
    (e1 : Ev G m_X4_lefts [.ref l0] h 0 0 (Ret (some (.int x1)) h))
    (c2 : hK h l0 = 14)
    (c3 : (hR h l0 0) ≠ 0)
    (e4 : (x1 ≤ l1) → Ev G m_X1_all [.ref (hR h l0 0), .int 0] (sJ h l0 5 1) 0 0 (Ret (some (.long x2)) (sJ h l0 5 1)))
    (c5 : hK h (hR h l0 0) = 11)
    (k6 : (x1 ≤ l1) → RR G nc ns m_X4_refresh 72 [some (.ref l0), some (.long x2), none, some (.int 0), none, none] [] (sJ h l0 5 1) Z)
    (c7 : (hR h l0 2) ≠ 0)
    (c8 : (hR h l0 1) ≠ 0)
    (e9 : (¬ x1 ≤ l1) → Ev G m_X0_usefulRights [.ref (hR h l0 1), .int l1] h 0 0 (Ret (some (.long x3)) h))
    (c10 : hK h (hR h l0 1) = 10)
    (c11 : hK h (hR h l0 2) = 3)
    (c12 : (¬ x1 ≤ l1) → vp_in l1 (hL h (hR h l0 2)))
    (k13 : (¬ x1 ≤ l1) → RR G nc ns m_X4_refresh 28 [some (.ref l0), some (.int (l1 + 1)), none, none, none, none] [] (sJ h (hR h l0 2) (Int32.toNatClampNeg l1) x3) Z) :
    RR G nc ns m_X4_refresh 28 [some (.ref l0), some (.int l1), none, none, none, none] [] h Z := by
  refine r_iload_n dX4_refresh_28 rfl ?_
  refine r_aload_n dX4_refresh_29 rfl ?_
  refine r_callV1 (c := 4) (mc := 0) (ms := 0) dX4_refresh_30 ck_X4_lefts iv_X4_lefts sl_X4_lefts lk_RX4_44 rfl rfl (c2) (by decide) (by decide) (As := []) rfl rfl (Nat.le_of_ble_eq_true rfl) (Or.inl rfl) (Or.inl rfl) (e1) ?_
  refine r_icmp_ge 56 dX4_refresh_33 (by decide) (fun q1 => ?_) (fun q1 => ?_)
  · refine r_aload_n dX4_refresh_56 rfl ?_
    refine r_lconst (v := 1) dX4_refresh_57 (by decide) ?_
    refine r_putJ (c := 4) (k := 5) dX4_refresh_58 rfl rfl (by decide) fl_RX4_30 (c2) (Or.inl rfl) rfl ?_
    refine r_aload_n dX4_refresh_61 rfl ?_
    refine r_getR (c := 4) (k := 0) dX4_refresh_62 rfl rfl (by decide) fl_RX4_9 (c2) rfl (c3) ?_
    refine r_iconst (v := 0) dX4_refresh_65 (by decide) ?_
    refine r_callV1 (c := 1) (mc := 0) (ms := 0) dX4_refresh_66 ck_X1_all iv_X1_all sl_X1_all lk_RX4_53 rfl rfl (c5) (by decide) (by decide) (As := [.int 0]) rfl rfl (Nat.le_of_ble_eq_true rfl) (Or.inl rfl) (Or.inl rfl) (e4 q1) ?_
    refine r_lstore_nL [some (.ref l0), some (.long x2), none, none, none, none] dX4_refresh_69 (by decide) rfl ?_
    refine r_iconst (v := 0) dX4_refresh_70 (by decide) ?_
    refine r_istore_nL [some (.ref l0), some (.long x2), none, some (.int 0), none, none] dX4_refresh_71 (by decide) rfl ?_
    exact k6 q1
  · refine r_aload_n dX4_refresh_36 rfl ?_
    refine r_getR (c := 4) (k := 2) dX4_refresh_37 rfl rfl (by decide) fl_RX4_19 (c2) rfl (c7) ?_
    refine r_iload_n dX4_refresh_40 rfl ?_
    refine r_aload_n dX4_refresh_41 rfl ?_
    refine r_getR (c := 4) (k := 1) dX4_refresh_42 rfl rfl (by decide) fl_RX4_15 (c2) rfl (c8) ?_
    refine r_iload_n dX4_refresh_45 rfl ?_
    refine r_callV1 (c := 0) (mc := 0) (ms := 0) dX4_refresh_46 ck_X0_usefulRights iv_X0_usefulRights sl_X0_usefulRights lk_RX4_47 rfl rfl (c10) (by decide) (by decide) (As := [.int l1]) rfl rfl (Nat.le_of_ble_eq_true rfl) (Or.inl rfl) (Or.inl rfl) (e9 q1) ?_
    refine r_lastoreJ (Int32.toNatClampNeg l1) dX4_refresh_49 (c11) (c12 q1) rfl ?_
    refine r_iincL (v := l1 + 1) [some (.ref l0), some (.int (l1 + 1)), none, none, none, none] dX4_refresh_50 rfl (by decide) rfl rfl ?_
    refine r_goto (tgt := 28) dX4_refresh_53 (by decide) ?_
    exact k13 q1

set_option maxRecDepth 20000 in
set_option maxHeartbeats 2000000 in
theorem s_X4_refresh_72 {G : GG} {nc ns : Nat} {h : PH} {Z : Option Value → PH → Prop} {l0 : Nat} {l1 : Int64} {l3 : Int32} {x1 : Int32} {x2 : Int32} {x3 : Int64} {mc4 : Nat} {ms4 : Nat} {P4 : Int64 → PH → Prop}
    (e1 : Ev G m_X4_lefts [.ref l0] h 0 0 (Ret (some (.int x1)) h))
    (c2 : hK h l0 = 14)
    (k3 : (x1 ≤ l3) → Z none h)
    (e4 : (¬ x1 ≤ l3) → Ev G m_X5_contains [.long l1, .int l3] h 0 0 (Ret (some (.int x2)) h))
    (k5 : (¬ x1 ≤ l3) → (x2 = 0) → RR G nc ns m_X4_refresh 72 [some (.ref l0), some (.long l1), none, some (.int (l3 + 1)), none, none] [] h Z)
    (e6 : (¬ x1 ≤ l3) → (¬ x2 = 0) → Ev G m_X4_pieceOf [.ref l0, .int l3] h 0 0 (Ret (some (.long x3)) h))
    (c7 : (hN h) + mc4 ≤ nc)
    (c8 : (hS h) + ms4 ≤ ns)
    (e9 : (¬ x1 ≤ l3) → (¬ x2 = 0) → Ev G m_X4_waysToPair [.ref l0, .long x3] h mc4 ms4 (RJ P4))
    (k10 : (¬ x1 ≤ l3) → (¬ x2 = 0) → ∀ (x4 : Int64) (h4 : PH), P4 x4 h4 → hN h4 = (hN h) + mc4 → hS h4 = (hS h) + ms4 → RR G nc ns m_X4_refresh 115 [some (.ref l0), some (.long (l1 &&& (x3 ^^^ (-1)))), none, some (.int l3), some (.long x3), none] [.long x4, .long (hJ h l0 5), .ref l0] h4 Z) :
    RR G nc ns m_X4_refresh 72 [some (.ref l0), some (.long l1), none, some (.int l3), none, none] [] h Z := by
  refine r_iload_n dX4_refresh_72 rfl ?_
  refine r_aload_n dX4_refresh_73 rfl ?_
  refine r_callV1 (c := 4) (mc := 0) (ms := 0) dX4_refresh_74 ck_X4_lefts iv_X4_lefts sl_X4_lefts lk_RX4_44 rfl rfl (c2) (by decide) (by decide) (As := []) rfl rfl (Nat.le_of_ble_eq_true rfl) (Or.inl rfl) (Or.inl rfl) (e1) ?_
  refine r_icmp_ge 125 dX4_refresh_77 (by decide) (fun q1 => ?_) (fun q1 => ?_)
  · exact r_return dX4_refresh_125 rfl (k3 q1)
  · refine r_lload_n dX4_refresh_80 rfl ?_
    refine r_iload_n dX4_refresh_81 rfl ?_
    refine r_callSN1 (mc := 0) (ms := 0) dX4_refresh_82 ck_X5_contains sv_X5_contains lk_RX4_56 (by decide) (by decide) (As := [.long l1, .int l3]) rfl rfl (Nat.le_of_ble_eq_true rfl) (Or.inl rfl) (Or.inl rfl) (e4 q1) ?_
    refine r_if_eq 119 dX4_refresh_85 (by decide) (fun q2 => ?_) (fun q2 => ?_)
    · refine r_iincL (v := l3 + 1) [some (.ref l0), some (.long l1), none, some (.int (l3 + 1)), none, none] dX4_refresh_119 rfl (by decide) rfl rfl ?_
      refine r_goto (tgt := 72) dX4_refresh_122 (by decide) ?_
      exact k5 q1 q2
    · refine r_aload_n dX4_refresh_88 rfl ?_
      refine r_iload_n dX4_refresh_89 rfl ?_
      refine r_callV1 (c := 4) (mc := 0) (ms := 0) dX4_refresh_90 ck_X4_pieceOf iv_X4_pieceOf sl_X4_pieceOf lk_RX4_60 rfl rfl (c2) (by decide) (by decide) (As := [.int l3]) rfl rfl (Nat.le_of_ble_eq_true rfl) (Or.inl rfl) (Or.inl rfl) (e6 q1 q2) ?_
      refine r_lstoreL [some (.ref l0), some (.long l1), none, some (.int l3), some (.long x3), none] dX4_refresh_93 (by decide) rfl ?_
      refine r_lload_n dX4_refresh_95 rfl ?_
      refine r_lload dX4_refresh_96 rfl ?_
      refine r_ldc2 (v := (-1)) dX4_refresh_98 cn_RX4_63 ?_
      refine r_lxor dX4_refresh_101 ?_
      refine r_land dX4_refresh_102 ?_
      refine r_lstore_nL [some (.ref l0), some (.long (l1 &&& (x3 ^^^ (-1)))), none, some (.int l3), some (.long x3), none] dX4_refresh_103 (by decide) rfl ?_
      refine r_aload_n dX4_refresh_104 rfl ?_
      refine r_dup dX4_refresh_105 rfl ?_
      refine r_get (c := 4) (k := 5) dX4_refresh_106 rfl rfl (by decide) fl_RX4_30 (c2) rfl ?_
      refine r_aload_n dX4_refresh_109 rfl ?_
      refine r_lload dX4_refresh_110 rfl ?_
      refine r_callV (c := 4) (mc := mc4) (ms := ms4) dX4_refresh_112 ck_X4_waysToPair iv_X4_waysToPair sl_X4_waysToPair lk_RX4_65 rfl rfl (c2) (by decide) (by decide) (As := [.long x3]) rfl rfl (Nat.le_of_ble_eq_true rfl) (Or.inr (c7)) (Or.inr (c8)) (e9 q1 q2) ?_
      rintro v4 h4 ⟨x4, rfl, z4⟩ n4 t4
      exact k10 q1 q2 x4 h4 z4 n4 t4

set_option maxRecDepth 20000 in
set_option maxHeartbeats 2000000 in
theorem s_X4_refresh_115 {G : GG} {nc ns : Nat} {h : PH} {Z : Option Value → PH → Prop} {l0 : Nat} {l1 : Int64} {l3 : Int32} {l4 : Int64} {s0 : Nat} {s1 : Int64} {s2 : Int64}
    (c1 : hK h s0 = 14)
    (k2 : RR G nc ns m_X4_refresh 72 [some (.ref l0), some (.long l1), none, some (.int (l3 + 1)), none, none] [] (sJ h s0 5 (s1 * s2)) Z) :
    RR G nc ns m_X4_refresh 115 [some (.ref l0), some (.long l1), none, some (.int l3), some (.long l4), none] [.long s2, .long s1, .ref s0] h Z := by
  refine r_lmul dX4_refresh_115 ?_
  refine r_putJ (c := 4) (k := 5) dX4_refresh_116 rfl rfl (by decide) fl_RX4_30 (c1) (Or.inl rfl) rfl ?_
  refine r_iincL (v := l3 + 1) [some (.ref l0), some (.long l1), none, some (.int (l3 + 1)), some (.long l4), none] dX4_refresh_119 rfl (by decide) rfl rfl ?_
  refine r_goto (tgt := 72) dX4_refresh_122 (by decide) ?_
  exact RR.sub (k2) (And.intro rfl (And.intro rfl (And.intro rfl (trivial))))

set_option maxRecDepth 20000 in
set_option maxHeartbeats 2000000 in
theorem s_X4_total_0 {G : GG} {nc ns : Nat} {h : PH} {Z : Option Value → PH → Prop} {l0 : Nat}
    (c1 : hK h l0 = 14)
    (k2 : Z (some (.long (hJ h l0 5))) h) :
    RR G nc ns m_X4_total 0 [some (.ref l0)] [] h Z := by
  refine r_aload_n dX4_total_0 rfl ?_
  refine r_get (c := 4) (k := 5) dX4_total_1 rfl rfl (by decide) fl_RX4_30 (c1) rfl ?_
  exact r_lreturn dX4_total_4 rfl (k2)

set_option maxRecDepth 20000 in
set_option maxHeartbeats 2000000 in
theorem s_X4_lefts_0 {G : GG} {nc ns : Nat} {h : PH} {Z : Option Value → PH → Prop} {l0 : Nat} {x1 : Int32}
    (c1 : hK h l0 = 14)
    (c2 : (hR h l0 0) ≠ 0)
    (e3 : Ev G m_X1_sizeOf [.ref (hR h l0 0), .int 0] h 0 0 (Ret (some (.int x1)) h))
    (c4 : hK h (hR h l0 0) = 11)
    (k5 : Z (some (.int (if 16 < x1 then 16 else x1))) h) :
    RR G nc ns m_X4_lefts 0 [some (.ref l0)] [] h Z := by
  refine r_aload_n dX4_lefts_0 rfl ?_
  refine r_getR (c := 4) (k := 0) dX4_lefts_1 rfl rfl (by decide) fl_RX4_9 (c1) rfl (c2) ?_
  refine r_iconst (v := 0) dX4_lefts_4 (by decide) ?_
  refine r_callV1 (c := 1) (mc := 0) (ms := 0) dX4_lefts_5 ck_X1_sizeOf iv_X1_sizeOf sl_X1_sizeOf lk_RX4_69 rfl rfl (c4) (by decide) (by decide) (As := [.int 0]) rfl rfl (Nat.le_of_ble_eq_true rfl) (Or.inl rfl) (Or.inl rfl) (e3) ?_
  refine r_bipush (v := 16) dX4_lefts_8 (by decide) ?_
  refine r_mmin dX4_lefts_10 lk_RX4_73 (by decide) (by decide) (Nat.le_of_ble_eq_true rfl) ?_
  exact r_ireturn dX4_lefts_13 rfl (k5)

set_option maxRecDepth 20000 in
set_option maxHeartbeats 2000000 in
theorem s_X4_pieceOf_0 {G : GG} {nc ns : Nat} {h : PH} {Z : Option Value → PH → Prop} {l0 : Nat} {l1 : Int32}
    (c1 : hK h l0 = 14)
    (c2 : (hR h l0 2) ≠ 0)
    (c3 : hK h (hR h l0 2) = 3)
    (c4 : vp_in l1 (hL h (hR h l0 2)))
    (k5 : RR G nc ns m_X4_pieceOf 15 [some (.ref l0), some (.int l1), some (.long (1 <<< (Int32.toInt64 l1 &&& 63))), none, some (.long (hJ h (hR h l0 2) (Int32.toNatClampNeg l1))), none, some (.int 1), none] [] h Z) :
    RR G nc ns m_X4_pieceOf 0 [some (.ref l0), some (.int l1), none, none, none, none, none, none] [] h Z := by
  refine r_lconst (v := 1) dX4_pieceOf_0 (by decide) ?_
  refine r_iload_n dX4_pieceOf_1 rfl ?_
  refine r_lshl dX4_pieceOf_2 ?_
  refine r_lstore_nL [some (.ref l0), some (.int l1), some (.long (1 <<< (Int32.toInt64 l1 &&& 63))), none, none, none, none, none] dX4_pieceOf_3 (by decide) rfl ?_
  refine r_aload_n dX4_pieceOf_4 rfl ?_
  refine r_getR (c := 4) (k := 2) dX4_pieceOf_5 rfl rfl (by decide) fl_RX4_19 (c1) rfl (c2) ?_
  refine r_iload_n dX4_pieceOf_8 rfl ?_
  refine r_laloadJ (Int32.toNatClampNeg l1) dX4_pieceOf_9 (c3) (c4) rfl ?_
  refine r_lstoreL [some (.ref l0), some (.int l1), some (.long (1 <<< (Int32.toInt64 l1 &&& 63))), none, some (.long (hJ h (hR h l0 2) (Int32.toNatClampNeg l1))), none, none, none] dX4_pieceOf_10 (by decide) rfl ?_
  refine r_iconst (v := 1) dX4_pieceOf_12 (by decide) ?_
  refine r_istoreL [some (.ref l0), some (.int l1), some (.long (1 <<< (Int32.toInt64 l1 &&& 63))), none, some (.long (hJ h (hR h l0 2) (Int32.toNatClampNeg l1))), none, some (.int 1), none] dX4_pieceOf_13 (by decide) rfl ?_
  exact k5

set_option maxRecDepth 20000 in
set_option maxHeartbeats 2000000 in
theorem s_X4_pieceOf_15 {G : GG} {nc ns : Nat} {h : PH} {Z : Option Value → PH → Prop} {l0 : Nat} {l1 : Int32} {l2 : Int64} {l4 : Int64} {l6 : Int32} {x1 : Int32}
    (e1 : Ev G m_X4_lefts [.ref l0] h 0 0 (Ret (some (.int x1)) h))
    (c2 : hK h l0 = 14)
    (k3 : (x1 ≤ l6) → Z (some (.long l2)) h)
    (k4 : (¬ x1 ≤ l6) → RR G nc ns m_X4_pieceOf 27 [some (.ref l0), some (.int l1), some (.long l2), none, some (.long l4), none, some (.int l6), some (.int 0)] [] h Z) :
    RR G nc ns m_X4_pieceOf 15 [some (.ref l0), some (.int l1), some (.long l2), none, some (.long l4), none, some (.int l6), none] [] h Z := by
  refine r_iload dX4_pieceOf_15 rfl ?_
  refine r_aload_n dX4_pieceOf_17 rfl ?_
  refine r_callV1 (c := 4) (mc := 0) (ms := 0) dX4_pieceOf_18 ck_X4_lefts iv_X4_lefts sl_X4_lefts lk_RX4_44 rfl rfl (c2) (by decide) (by decide) (As := []) rfl rfl (Nat.le_of_ble_eq_true rfl) (Or.inl rfl) (Or.inl rfl) (e1) ?_
  refine r_icmp_ge 82 dX4_pieceOf_21 (by decide) (fun q1 => ?_) (fun q1 => ?_)
  · refine r_lload_n dX4_pieceOf_82 rfl ?_
    exact r_lreturn dX4_pieceOf_83 rfl (k3 q1)
  · refine r_iconst (v := 0) dX4_pieceOf_24 (by decide) ?_
    refine r_istoreL [some (.ref l0), some (.int l1), some (.long l2), none, some (.long l4), none, some (.int l6), some (.int 0)] dX4_pieceOf_25 (by decide) rfl ?_
    exact k4 q1

set_option maxRecDepth 20000 in
set_option maxHeartbeats 2000000 in
theorem s_X4_pieceOf_27 {G : GG} {nc ns : Nat} {h : PH} {Z : Option Value → PH → Prop} {l0 : Nat} {l1 : Int32} {l2 : Int64} {l4 : Int64} {l6 : Int32} {l7 : Int32} {x1 : Int32}
    (e1 : Ev G m_X4_lefts [.ref l0] h 0 0 (Ret (some (.int x1)) h))
    (c2 : hK h l0 = 14)
    (k3 : (x1 ≤ l7) → RR G nc ns m_X4_pieceOf 15 [some (.ref l0), some (.int l1), some (.long l2), none, some (.long l4), none, some (.int (l6 + 1)), none] [] h Z)
    (c4 : (hR h l0 2) ≠ 0)
    (c5 : hK h (hR h l0 2) = 3)
    (c6 : (¬ x1 ≤ l7) → vp_in l7 (hL h (hR h l0 2)))
    (k7 : (¬ x1 ≤ l7) → ((lg_cmp ((hJ h (hR h l0 2) (Int32.toNatClampNeg l7)) &&& l4) 0) = 0) → RR G nc ns m_X4_pieceOf 27 [some (.ref l0), some (.int l1), some (.long l2), none, some (.long l4), none, some (.int l6), some (.int (l7 + 1))] [] h Z)
    (k8 : (¬ x1 ≤ l7) → (¬ (lg_cmp ((hJ h (hR h l0 2) (Int32.toNatClampNeg l7)) &&& l4) 0) = 0) → RR G nc ns m_X4_pieceOf 27 [some (.ref l0), some (.int l1), some (.long (l2 ||| (1 <<< (Int32.toInt64 l7 &&& 63)))), none, some (.long (l4 ||| (hJ h (hR h l0 2) (Int32.toNatClampNeg l7)))), none, some (.int l6), some (.int (l7 + 1))] [] h Z) :
    RR G nc ns m_X4_pieceOf 27 [some (.ref l0), some (.int l1), some (.long l2), none, some (.long l4), none, some (.int l6), some (.int l7)] [] h Z := by
  refine r_iload dX4_pieceOf_27 rfl ?_
  refine r_aload_n dX4_pieceOf_29 rfl ?_
  refine r_callV1 (c := 4) (mc := 0) (ms := 0) dX4_pieceOf_30 ck_X4_lefts iv_X4_lefts sl_X4_lefts lk_RX4_44 rfl rfl (c2) (by decide) (by decide) (As := []) rfl rfl (Nat.le_of_ble_eq_true rfl) (Or.inl rfl) (Or.inl rfl) (e1) ?_
  refine r_icmp_ge 76 dX4_pieceOf_33 (by decide) (fun q1 => ?_) (fun q1 => ?_)
  · refine r_iincL (v := l6 + 1) [some (.ref l0), some (.int l1), some (.long l2), none, some (.long l4), none, some (.int (l6 + 1)), some (.int l7)] dX4_pieceOf_76 rfl (by decide) rfl rfl ?_
    refine r_goto (tgt := 15) dX4_pieceOf_79 (by decide) ?_
    exact RR.sub (k3 q1) (And.intro rfl (And.intro rfl (And.intro rfl (And.intro rfl (And.intro rfl (trivial))))))
  · refine r_aload_n dX4_pieceOf_36 rfl ?_
    refine r_getR (c := 4) (k := 2) dX4_pieceOf_37 rfl rfl (by decide) fl_RX4_19 (c2) rfl (c4) ?_
    refine r_iload dX4_pieceOf_40 rfl ?_
    refine r_laloadJ (Int32.toNatClampNeg l7) dX4_pieceOf_42 (c5) (c6 q1) rfl ?_
    refine r_lload dX4_pieceOf_43 rfl ?_
    refine r_land dX4_pieceOf_45 ?_
    refine r_lconst (v := 0) dX4_pieceOf_46 (by decide) ?_
    refine r_lcmp dX4_pieceOf_47 ?_
    refine r_if_eq 70 dX4_pieceOf_48 (by decide) (fun q2 => ?_) (fun q2 => ?_)
    · refine r_iincL (v := l7 + 1) [some (.ref l0), some (.int l1), some (.long l2), none, some (.long l4), none, some (.int l6), some (.int (l7 + 1))] dX4_pieceOf_70 rfl (by decide) rfl rfl ?_
      refine r_goto (tgt := 27) dX4_pieceOf_73 (by decide) ?_
      exact k7 q1 q2
    · refine r_lload_n dX4_pieceOf_51 rfl ?_
      refine r_lconst (v := 1) dX4_pieceOf_52 (by decide) ?_
      refine r_iload dX4_pieceOf_53 rfl ?_
      refine r_lshl dX4_pieceOf_55 ?_
      refine r_lor dX4_pieceOf_56 ?_
      refine r_lstore_nL [some (.ref l0), some (.int l1), some (.long (l2 ||| (1 <<< (Int32.toInt64 l7 &&& 63)))), none, some (.long l4), none, some (.int l6), some (.int l7)] dX4_pieceOf_57 (by decide) rfl ?_
      refine r_lload dX4_pieceOf_58 rfl ?_
      refine r_aload_n dX4_pieceOf_60 rfl ?_
      refine r_getR (c := 4) (k := 2) dX4_pieceOf_61 rfl rfl (by decide) fl_RX4_19 (c2) rfl (c4) ?_
      refine r_iload dX4_pieceOf_64 rfl ?_
      refine r_laloadJ (Int32.toNatClampNeg l7) dX4_pieceOf_66 (c5) (c6 q1) rfl ?_
      refine r_lor dX4_pieceOf_67 ?_
      refine r_lstoreL [some (.ref l0), some (.int l1), some (.long (l2 ||| (1 <<< (Int32.toInt64 l7 &&& 63)))), none, some (.long (l4 ||| (hJ h (hR h l0 2) (Int32.toNatClampNeg l7)))), none, some (.int l6), some (.int l7)] dX4_pieceOf_68 (by decide) rfl ?_
      refine r_iincL (v := l7 + 1) [some (.ref l0), some (.int l1), some (.long (l2 ||| (1 <<< (Int32.toInt64 l7 &&& 63)))), none, some (.long (l4 ||| (hJ h (hR h l0 2) (Int32.toNatClampNeg l7)))), none, some (.int l6), some (.int (l7 + 1))] dX4_pieceOf_70 rfl (by decide) rfl rfl ?_
      refine r_goto (tgt := 27) dX4_pieceOf_73 (by decide) ?_
      exact k8 q1 q2

set_option maxRecDepth 20000 in
set_option maxHeartbeats 2000000 in
theorem s_X4_waysToPair_0 {G : GG} {nc ns : Nat} {h : PH} {Z : Option Value → PH → Prop} {l0 : Nat} {l1 : Int64}
    (k1 : RR G nc ns m_X4_waysToPair 5 [some (.ref l0), some (.long l1), none, some (.long 0), none, some (.int 0), none, none] [] h Z) :
    RR G nc ns m_X4_waysToPair 0 [some (.ref l0), some (.long l1), none, none, none, none, none, none] [] h Z := by
  refine r_lconst (v := 0) dX4_waysToPair_0 (by decide) ?_
  refine r_lstore_nL [some (.ref l0), some (.long l1), none, some (.long 0), none, none, none, none] dX4_waysToPair_1 (by decide) rfl ?_
  refine r_iconst (v := 0) dX4_waysToPair_2 (by decide) ?_
  refine r_istoreL [some (.ref l0), some (.long l1), none, some (.long 0), none, some (.int 0), none, none] dX4_waysToPair_3 (by decide) rfl ?_
  exact k1

set_option maxRecDepth 20000 in
set_option maxHeartbeats 2000000 in
theorem s_X4_waysToPair_5 {G : GG} {nc ns : Nat} {h : PH} {Z : Option Value → PH → Prop} {l0 : Nat} {l1 : Int64} {l3 : Int64} {l5 : Int32} {x1 : Int32} {x2 : Int32} {x3 : Int32} {P4 : PH → Prop} {P5 : PH → Prop} {x6 : Int32}
    (e1 : Ev G m_X4_lefts [.ref l0] h 0 0 (Ret (some (.int x1)) h))
    (c2 : hK h l0 = 14)
    (e3 : (x1 ≤ l5) → Ev G m_J13_bitCount_95d88 [.long l1] h 0 0 (Ret (some (.int x2)) h))
    (e4 : (x1 ≤ l5) → Ev G m_J13_bitCount_95d88 [.long l3] h 0 0 (Ret (some (.int x3)) h))
    (e5 : (x1 ≤ l5) → (x2 ≤ x3) → Ev G m_X4_setChoices [.ref l0, .long l1, .long l3, .int 0] h 0 0 (RV P4))
    (k6 : (x1 ≤ l5) → (x2 ≤ x3) → ∀ (h4 : PH), P4 h4 → hN h4 = (hN h) → hS h4 = (hS h) → RR G nc ns m_X4_waysToPair 73 [some (.ref l0), some (.long l1), none, some (.long l3), none, some (.int x2), some (.int x3), some (.int 0)] [] h4 Z)
    (e7 : (x1 ≤ l5) → (¬ x2 ≤ x3) → Ev G m_X4_setChoices [.ref l0, .long l1, .long l3, .int 1] h 0 0 (RV P5))
    (k8 : (x1 ≤ l5) → (¬ x2 ≤ x3) → ∀ (h5 : PH), P5 h5 → hN h5 = (hN h) → hS h5 = (hS h) → RR G nc ns m_X4_waysToPair 73 [some (.ref l0), some (.long l1), none, some (.long l3), none, some (.int x2), some (.int x3), some (.int 1)] [] h5 Z)
    (e9 : (¬ x1 ≤ l5) → Ev G m_X5_contains [.long l1, .int l5] h 0 0 (Ret (some (.int x6)) h))
    (k10 : (¬ x1 ≤ l5) → (x6 = 0) → RR G nc ns m_X4_waysToPair 5 [some (.ref l0), some (.long l1), none, some (.long l3), none, some (.int (l5 + 1)), none, none] [] h Z)
    (c11 : (hR h l0 2) ≠ 0)
    (c12 : hK h (hR h l0 2) = 3)
    (c13 : (¬ x1 ≤ l5) → (¬ x6 = 0) → vp_in l5 (hL h (hR h l0 2)))
    (k14 : (¬ x1 ≤ l5) → (¬ x6 = 0) → RR G nc ns m_X4_waysToPair 5 [some (.ref l0), some (.long l1), none, some (.long (l3 ||| (hJ h (hR h l0 2) (Int32.toNatClampNeg l5)))), none, some (.int (l5 + 1)), none, none] [] h Z) :
    RR G nc ns m_X4_waysToPair 5 [some (.ref l0), some (.long l1), none, some (.long l3), none, some (.int l5), none, none] [] h Z := by
  refine r_iload dX4_waysToPair_5 rfl ?_
  refine r_aload_n dX4_waysToPair_7 rfl ?_
  refine r_callV1 (c := 4) (mc := 0) (ms := 0) dX4_waysToPair_8 ck_X4_lefts iv_X4_lefts sl_X4_lefts lk_RX4_44 rfl rfl (c2) (by decide) (by decide) (As := []) rfl rfl (Nat.le_of_ble_eq_true rfl) (Or.inl rfl) (Or.inl rfl) (e1) ?_
  refine r_icmp_ge 39 dX4_waysToPair_11 (by decide) (fun q1 => ?_) (fun q1 => ?_)
  · refine r_lload_n dX4_waysToPair_39 rfl ?_
    refine r_callS1 (mc := 0) (ms := 0) dX4_waysToPair_40 ck_J13_bitCount_95d88 sv_J13_bitCount_95d88 lk_RX4_79 (by decide) (by decide) (As := [.long l1]) rfl rfl (Nat.le_of_ble_eq_true rfl) (Or.inl rfl) (Or.inl rfl) (e3 q1) ?_
    refine r_istoreL [some (.ref l0), some (.long l1), none, some (.long l3), none, some (.int x2), none, none] dX4_waysToPair_43 (by decide) rfl ?_
    refine r_lload_n dX4_waysToPair_45 rfl ?_
    refine r_callS1 (mc := 0) (ms := 0) dX4_waysToPair_46 ck_J13_bitCount_95d88 sv_J13_bitCount_95d88 lk_RX4_79 (by decide) (by decide) (As := [.long l3]) rfl rfl (Nat.le_of_ble_eq_true rfl) (Or.inl rfl) (Or.inl rfl) (e4 q1) ?_
    refine r_istoreL [some (.ref l0), some (.long l1), none, some (.long l3), none, some (.int x2), some (.int x3), none] dX4_waysToPair_49 (by decide) rfl ?_
    refine r_iload dX4_waysToPair_51 rfl ?_
    refine r_iload dX4_waysToPair_53 rfl ?_
    refine r_icmp_le 62 dX4_waysToPair_55 (by decide) (fun q2 => ?_) (fun q2 => ?_)
    · refine r_iconst (v := 0) dX4_waysToPair_62 (by decide) ?_
      refine r_istoreL [some (.ref l0), some (.long l1), none, some (.long l3), none, some (.int x2), some (.int x3), some (.int 0)] dX4_waysToPair_63 (by decide) rfl ?_
      refine r_aload_n dX4_waysToPair_65 rfl ?_
      refine r_lload_n dX4_waysToPair_66 rfl ?_
      refine r_lload_n dX4_waysToPair_67 rfl ?_
      refine r_iload dX4_waysToPair_68 rfl ?_
      refine r_callV (c := 4) (mc := 0) (ms := 0) dX4_waysToPair_70 ck_X4_setChoices iv_X4_setChoices sl_X4_setChoices lk_RX4_85 rfl rfl (c2) (by decide) (by decide) (As := [.long l1, .long l3, .int 0]) rfl rfl (Nat.le_of_ble_eq_true rfl) (Or.inl rfl) (Or.inl rfl) (e5 q1 q2) ?_
      rintro v4 h4 ⟨rfl, z4⟩ n4 t4
      exact k6 q1 q2 h4 z4 n4 t4
    · refine r_iconst (v := 1) dX4_waysToPair_58 (by decide) ?_
      refine r_goto (tgt := 63) dX4_waysToPair_59 (by decide) ?_
      refine r_istoreL [some (.ref l0), some (.long l1), none, some (.long l3), none, some (.int x2), some (.int x3), some (.int 1)] dX4_waysToPair_63 (by decide) rfl ?_
      refine r_aload_n dX4_waysToPair_65 rfl ?_
      refine r_lload_n dX4_waysToPair_66 rfl ?_
      refine r_lload_n dX4_waysToPair_67 rfl ?_
      refine r_iload dX4_waysToPair_68 rfl ?_
      refine r_callV (c := 4) (mc := 0) (ms := 0) dX4_waysToPair_70 ck_X4_setChoices iv_X4_setChoices sl_X4_setChoices lk_RX4_85 rfl rfl (c2) (by decide) (by decide) (As := [.long l1, .long l3, .int 1]) rfl rfl (Nat.le_of_ble_eq_true rfl) (Or.inl rfl) (Or.inl rfl) (e7 q1 q2) ?_
      rintro v5 h5 ⟨rfl, z5⟩ n5 t5
      exact k8 q1 q2 h5 z5 n5 t5
  · refine r_lload_n dX4_waysToPair_14 rfl ?_
    refine r_iload dX4_waysToPair_15 rfl ?_
    refine r_callSN1 (mc := 0) (ms := 0) dX4_waysToPair_17 ck_X5_contains sv_X5_contains lk_RX4_56 (by decide) (by decide) (As := [.long l1, .int l5]) rfl rfl (Nat.le_of_ble_eq_true rfl) (Or.inl rfl) (Or.inl rfl) (e9 q1) ?_
    refine r_if_eq 33 dX4_waysToPair_20 (by decide) (fun q3 => ?_) (fun q3 => ?_)
    · refine r_iincL (v := l5 + 1) [some (.ref l0), some (.long l1), none, some (.long l3), none, some (.int (l5 + 1)), none, none] dX4_waysToPair_33 rfl (by decide) rfl rfl ?_
      refine r_goto (tgt := 5) dX4_waysToPair_36 (by decide) ?_
      exact k10 q1 q3
    · refine r_lload_n dX4_waysToPair_23 rfl ?_
      refine r_aload_n dX4_waysToPair_24 rfl ?_
      refine r_getR (c := 4) (k := 2) dX4_waysToPair_25 rfl rfl (by decide) fl_RX4_19 (c2) rfl (c11) ?_
      refine r_iload dX4_waysToPair_28 rfl ?_
      refine r_laloadJ (Int32.toNatClampNeg l5) dX4_waysToPair_30 (c12) (c13 q1 q3) rfl ?_
      refine r_lor dX4_waysToPair_31 ?_
      refine r_lstore_nL [some (.ref l0), some (.long l1), none, some (.long (l3 ||| (hJ h (hR h l0 2) (Int32.toNatClampNeg l5)))), none, some (.int l5), none, none] dX4_waysToPair_32 (by decide) rfl ?_
      refine r_iincL (v := l5 + 1) [some (.ref l0), some (.long l1), none, some (.long (l3 ||| (hJ h (hR h l0 2) (Int32.toNatClampNeg l5)))), none, some (.int (l5 + 1)), none, none] dX4_waysToPair_33 rfl (by decide) rfl rfl ?_
      refine r_goto (tgt := 5) dX4_waysToPair_36 (by decide) ?_
      exact k14 q1 q3

set_option maxRecDepth 20000 in
set_option maxHeartbeats 2000000 in
theorem s_X4_waysToPair_73 {G : GG} {nc ns : Nat} {h : PH} {Z : Option Value → PH → Prop} {l0 : Nat} {l1 : Int64} {l3 : Int64} {l5 : Int32} {l6 : Int32} {l7 : Int32} {mc1 : Nat} {ms1 : Nat} {P1 : Int64 → PH → Prop} {mc2 : Nat} {ms2 : Nat} {P2 : Int64 → PH → Prop}
    (c1 : (hN h) + mc1 ≤ nc)
    (c2 : (hS h) + ms1 ≤ ns)
    (e3 : (l7 = 0) → Ev G m_X4_waysToChoose [.ref l0, .int l5, .int l6] h mc1 ms1 (RJ P1))
    (c4 : hK h l0 = 14)
    (k5 : (l7 = 0) → ∀ (x1 : Int64) (h1 : PH), P1 x1 h1 → hN h1 = (hN h) + mc1 → hS h1 = (hS h) + ms1 → RR G nc ns m_X4_waysToPair 97 [some (.ref l0), some (.long l1), none, some (.long l3), none, some (.int l5), some (.int l6), some (.int l7)] [.long x1] h1 Z)
    (c6 : (hN h) + mc2 ≤ nc)
    (c7 : (hS h) + ms2 ≤ ns)
    (e8 : (¬ l7 = 0) → Ev G m_X4_waysToChoose [.ref l0, .int l6, .int l5] h mc2 ms2 (RJ P2))
    (k9 : (¬ l7 = 0) → ∀ (x2 : Int64) (h2 : PH), P2 x2 h2 → hN h2 = (hN h) + mc2 → hS h2 = (hS h) + ms2 → RR G nc ns m_X4_waysToPair 86 [some (.ref l0), some (.long l1), none, some (.long l3), none, some (.int l5), some (.int l6), some (.int l7)] [.long x2] h2 Z) :
    RR G nc ns m_X4_waysToPair 73 [some (.ref l0), some (.long l1), none, some (.long l3), none, some (.int l5), some (.int l6), some (.int l7)] [] h Z := by
  refine r_iload dX4_waysToPair_73 rfl ?_
  refine r_if_eq 89 dX4_waysToPair_75 (by decide) (fun q1 => ?_) (fun q1 => ?_)
  · refine r_aload_n dX4_waysToPair_89 rfl ?_
    refine r_iload dX4_waysToPair_90 rfl ?_
    refine r_iload dX4_waysToPair_92 rfl ?_
    refine r_callV (c := 4) (mc := mc1) (ms := ms1) dX4_waysToPair_94 ck_X4_waysToChoose iv_X4_waysToChoose sl_X4_waysToChoose lk_RX4_89 rfl rfl (c4) (by decide) (by decide) (As := [.int l5, .int l6]) rfl rfl (Nat.le_of_ble_eq_true rfl) (Or.inr (c1)) (Or.inr (c2)) (e3 q1) ?_
    rintro v1 h1 ⟨x1, rfl, z1⟩ n1 t1
    exact k5 q1 x1 h1 z1 n1 t1
  · refine r_aload_n dX4_waysToPair_78 rfl ?_
    refine r_iload dX4_waysToPair_79 rfl ?_
    refine r_iload dX4_waysToPair_81 rfl ?_
    refine r_callV (c := 4) (mc := mc2) (ms := ms2) dX4_waysToPair_83 ck_X4_waysToChoose iv_X4_waysToChoose sl_X4_waysToChoose lk_RX4_89 rfl rfl (c4) (by decide) (by decide) (As := [.int l6, .int l5]) rfl rfl (Nat.le_of_ble_eq_true rfl) (Or.inr (c6)) (Or.inr (c7)) (e8 q1) ?_
    rintro v2 h2 ⟨x2, rfl, z2⟩ n2 t2
    exact k9 q1 x2 h2 z2 n2 t2

set_option maxRecDepth 20000 in
set_option maxHeartbeats 2000000 in
theorem s_X4_waysToPair_86 {G : GG} {nc ns : Nat} {h : PH} {Z : Option Value → PH → Prop} {l0 : Nat} {l1 : Int64} {l3 : Int64} {l5 : Int32} {l6 : Int32} {l7 : Int32} {s0 : Int64}
    (k1 : RR G nc ns m_X4_waysToPair 97 [some (.ref l0), some (.long l1), none, some (.long l3), none, some (.int l5), some (.int l6), some (.int l7)] [.long s0] h Z) :
    RR G nc ns m_X4_waysToPair 86 [some (.ref l0), some (.long l1), none, some (.long l3), none, some (.int l5), some (.int l6), some (.int l7)] [.long s0] h Z := by
  refine r_goto (tgt := 97) dX4_waysToPair_86 (by decide) ?_
  exact k1

set_option maxRecDepth 20000 in
set_option maxHeartbeats 2000000 in
theorem s_X4_waysToPair_97 {G : GG} {nc ns : Nat} {h : PH} {Z : Option Value → PH → Prop} {l0 : Nat} {l1 : Int64} {l3 : Int64} {l5 : Int32} {l6 : Int32} {l7 : Int32} {s0 : Int64}
    (k1 : Z (some (.long s0)) h) :
    RR G nc ns m_X4_waysToPair 97 [some (.ref l0), some (.long l1), none, some (.long l3), none, some (.int l5), some (.int l6), some (.int l7)] [.long s0] h Z := by
  exact r_lreturn dX4_waysToPair_97 rfl (k1)

set_option maxRecDepth 20000 in
set_option maxHeartbeats 2000000 in
theorem s_X4_setChoices_0 {G : GG} {nc ns : Nat} {h : PH} {Z : Option Value → PH → Prop} {l0 : Nat} {l1 : Int64} {l3 : Int64} {l5 : Int32} {P1 : PH → Prop}
    (c1 : hK h l0 = 14)
    (c2 : (hR h l0 3) ≠ 0)
    (e3 : Ev G m_J7_fill_53178 [.ref (hR h l0 3), .int 0] h 0 0 (RV P1))
    (k4 : ∀ (h1 : PH), P1 h1 → hN h1 = (hN h) → hS h1 = (hS h) → RR G nc ns m_X4_setChoices 8 [some (.ref l0), some (.long l1), none, some (.long l3), none, some (.int l5), none, none, none, none, none, none] [] h1 Z) :
    RR G nc ns m_X4_setChoices 0 [some (.ref l0), some (.long l1), none, some (.long l3), none, some (.int l5), none, none, none, none, none, none] [] h Z := by
  refine r_aload_n dX4_setChoices_0 rfl ?_
  refine r_getR (c := 4) (k := 3) dX4_setChoices_1 rfl rfl (by decide) fl_RX4_23 (c1) rfl (c2) ?_
  refine r_iconst (v := 0) dX4_setChoices_4 (by decide) ?_
  refine r_callS (mc := 0) (ms := 0) dX4_setChoices_5 ck_J7_fill_53178 sv_J7_fill_53178 lk_RX4_93 (by decide) (by decide) (As := [.ref (hR h l0 3), .int 0]) rfl rfl (Nat.le_of_ble_eq_true rfl) (Or.inl rfl) (Or.inl rfl) (e3) ?_
  rintro v1 h1 ⟨rfl, z1⟩ n1 t1
  exact k4 h1 z1 n1 t1

set_option maxRecDepth 20000 in
set_option maxHeartbeats 2000000 in
theorem s_X4_setChoices_8 {G : GG} {nc ns : Nat} {h : PH} {Z : Option Value → PH → Prop} {l0 : Nat} {l1 : Int64} {l3 : Int64} {l5 : Int32}
    (k1 : RR G nc ns m_X4_setChoices 14 [some (.ref l0), some (.long l1), none, some (.long l3), none, some (.int l5), some (.int 0), some (.int 0), none, none, none, none] [] h Z) :
    RR G nc ns m_X4_setChoices 8 [some (.ref l0), some (.long l1), none, some (.long l3), none, some (.int l5), none, none, none, none, none, none] [] h Z := by
  refine r_iconst (v := 0) dX4_setChoices_8 (by decide) ?_
  refine r_istoreL [some (.ref l0), some (.long l1), none, some (.long l3), none, some (.int l5), some (.int 0), none, none, none, none, none] dX4_setChoices_9 (by decide) rfl ?_
  refine r_iconst (v := 0) dX4_setChoices_11 (by decide) ?_
  refine r_istoreL [some (.ref l0), some (.long l1), none, some (.long l3), none, some (.int l5), some (.int 0), some (.int 0), none, none, none, none] dX4_setChoices_12 (by decide) rfl ?_
  exact k1

set_option maxRecDepth 20000 in
set_option maxHeartbeats 2000000 in
theorem s_X4_setChoices_14 {G : GG} {nc ns : Nat} {h : PH} {Z : Option Value → PH → Prop} {l0 : Nat} {l1 : Int64} {l3 : Int64} {l5 : Int32} {l6 : Int32} {l7 : Int32} {x1 : Int32} {x2 : Int32}
    (e1 : Ev G m_X4_lefts [.ref l0] h 0 0 (Ret (some (.int x1)) h))
    (c2 : hK h l0 = 14)
    (k3 : (x1 ≤ l7) → Z none h)
    (e4 : (¬ x1 ≤ l7) → Ev G m_X5_contains [.long l1, .int l7] h 0 0 (Ret (some (.int x2)) h))
    (k5 : (¬ x1 ≤ l7) → (¬ x2 = 0) → RR G nc ns m_X4_setChoices 41 [some (.ref l0), some (.long l1), none, some (.long l3), none, some (.int l5), some (.int l6), some (.int l7), some (.int 0), some (.int 0), none, none] [] h Z)
    (k6 : (¬ x1 ≤ l7) → (x2 = 0) → RR G nc ns m_X4_setChoices 14 [some (.ref l0), some (.long l1), none, some (.long l3), none, some (.int l5), some (.int l6), some (.int (l7 + 1)), none, none, none, none] [] h Z) :
    RR G nc ns m_X4_setChoices 14 [some (.ref l0), some (.long l1), none, some (.long l3), none, some (.int l5), some (.int l6), some (.int l7), none, none, none, none] [] h Z := by
  refine r_iload dX4_setChoices_14 rfl ?_
  refine r_aload_n dX4_setChoices_16 rfl ?_
  refine r_callV1 (c := 4) (mc := 0) (ms := 0) dX4_setChoices_17 ck_X4_lefts iv_X4_lefts sl_X4_lefts lk_RX4_44 rfl rfl (c2) (by decide) (by decide) (As := []) rfl rfl (Nat.le_of_ble_eq_true rfl) (Or.inl rfl) (Or.inl rfl) (e1) ?_
  refine r_icmp_ge 135 dX4_setChoices_20 (by decide) (fun q1 => ?_) (fun q1 => ?_)
  · exact r_return dX4_setChoices_135 rfl (k3 q1)
  · refine r_lload_n dX4_setChoices_23 rfl ?_
    refine r_iload dX4_setChoices_24 rfl ?_
    refine r_callSN1 (mc := 0) (ms := 0) dX4_setChoices_26 ck_X5_contains sv_X5_contains lk_RX4_56 (by decide) (by decide) (As := [.long l1, .int l7]) rfl rfl (Nat.le_of_ble_eq_true rfl) (Or.inl rfl) (Or.inl rfl) (e4 q1) ?_
    refine r_if_ne 35 dX4_setChoices_29 (by decide) (fun q2 => ?_) (fun q2 => ?_)
    · refine r_iconst (v := 0) dX4_setChoices_35 (by decide) ?_
      refine r_istoreL [some (.ref l0), some (.long l1), none, some (.long l3), none, some (.int l5), some (.int l6), some (.int l7), some (.int 0), none, none, none] dX4_setChoices_36 (by decide) rfl ?_
      refine r_iconst (v := 0) dX4_setChoices_38 (by decide) ?_
      refine r_istoreL [some (.ref l0), some (.long l1), none, some (.long l3), none, some (.int l5), some (.int l6), some (.int l7), some (.int 0), some (.int 0), none, none] dX4_setChoices_39 (by decide) rfl ?_
      exact k5 q1 q2
    · refine r_goto (tgt := 129) dX4_setChoices_32 (by decide) ?_
      refine r_iincL (v := l7 + 1) [some (.ref l0), some (.long l1), none, some (.long l3), none, some (.int l5), some (.int l6), some (.int (l7 + 1)), none, none, none, none] dX4_setChoices_129 rfl (by decide) rfl rfl ?_
      refine r_goto (tgt := 14) dX4_setChoices_132 (by decide) ?_
      exact k6 q1 q2

set_option maxRecDepth 20000 in
set_option maxHeartbeats 2000000 in
theorem s_X4_setChoices_41 {G : GG} {nc ns : Nat} {h : PH} {Z : Option Value → PH → Prop} {l0 : Nat} {l1 : Int64} {l3 : Int64} {l5 : Int32} {l6 : Int32} {l7 : Int32} {l8 : Int32} {l9 : Int32} {x1 : Int32} {x2 : Int32}
    (k1 : (16 ≤ l9) → RR G nc ns m_X4_setChoices 14 [some (.ref l0), some (.long l1), none, some (.long l3), none, some (.int l5), some (.int (l6 + 1)), some (.int (l7 + 1)), none, none, none, none] [] h Z)
    (e2 : (¬ 16 ≤ l9) → Ev G m_X5_contains [.long l3, .int l9] h 0 0 (Ret (some (.int x1)) h))
    (c3 : hK h l0 = 14)
    (c4 : (hR h l0 2) ≠ 0)
    (c5 : hK h (hR h l0 2) = 3)
    (c6 : (¬ 16 ≤ l9) → (¬ x1 = 0) → vp_in l7 (hL h (hR h l0 2)))
    (e7 : (¬ 16 ≤ l9) → (¬ x1 = 0) → Ev G m_X5_contains [.long (hJ h (hR h l0 2) (Int32.toNatClampNeg l7)), .int l9] h 0 0 (Ret (some (.int x2)) h))
    (k8 : (¬ 16 ≤ l9) → (¬ x1 = 0) → (x2 = 0) → RR G nc ns m_X4_setChoices 41 [some (.ref l0), some (.long l1), none, some (.long l3), none, some (.int l5), some (.int l6), some (.int l7), some (.int (l8 + 1)), some (.int (l9 + 1)), none, none] [] h Z)
    (c9 : (hR h l0 3) ≠ 0)
    (c10 : hK h (hR h l0 3) = 2)
    (c11 : (¬ 16 ≤ l9) → (¬ x1 = 0) → (¬ x2 = 0) → (l5 = 0) → (l5 = 0) → vp_in l6 (hL h (hR h l0 3)))
    (k12 : (¬ 16 ≤ l9) → (¬ x1 = 0) → (¬ x2 = 0) → (l5 = 0) → (l5 = 0) → RR G nc ns m_X4_setChoices 41 [some (.ref l0), some (.long l1), none, some (.long l3), none, some (.int l5), some (.int l6), some (.int l7), some (.int (l8 + 1)), some (.int (l9 + 1)), none, none] [] (sI h (hR h l0 3) (Int32.toNatClampNeg l6) ((hI h (hR h l0 3) (Int32.toNatClampNeg l6)) ||| (1 <<< (l8 &&& 31)))) Z)
    (c13 : (¬ 16 ≤ l9) → (¬ x1 = 0) → (¬ x2 = 0) → (l5 = 0) → (¬ l5 = 0) → vp_in l6 (hL h (hR h l0 3)))
    (c14 : (¬ 16 ≤ l9) → (¬ x1 = 0) → (¬ x2 = 0) → (l5 = 0) → (¬ l5 = 0) → vp_in l6 (hL h (hR h l0 3)))
    (k15 : (¬ 16 ≤ l9) → (¬ x1 = 0) → (¬ x2 = 0) → (l5 = 0) → (¬ l5 = 0) → RR G nc ns m_X4_setChoices 41 [some (.ref l0), some (.long l1), none, some (.long l3), none, some (.int l5), some (.int l6), some (.int l7), some (.int (l8 + 1)), some (.int (l9 + 1)), none, none] [] (sI h (hR h l0 3) (Int32.toNatClampNeg l6) ((hI h (hR h l0 3) (Int32.toNatClampNeg l6)) ||| (1 <<< (l6 &&& 31)))) Z)
    (c16 : (¬ 16 ≤ l9) → (¬ x1 = 0) → (¬ x2 = 0) → (¬ l5 = 0) → (l5 = 0) → vp_in l8 (hL h (hR h l0 3)))
    (k17 : (¬ 16 ≤ l9) → (¬ x1 = 0) → (¬ x2 = 0) → (¬ l5 = 0) → (l5 = 0) → RR G nc ns m_X4_setChoices 41 [some (.ref l0), some (.long l1), none, some (.long l3), none, some (.int l5), some (.int l6), some (.int l7), some (.int (l8 + 1)), some (.int (l9 + 1)), none, none] [] (sI h (hR h l0 3) (Int32.toNatClampNeg l8) ((hI h (hR h l0 3) (Int32.toNatClampNeg l8)) ||| (1 <<< (l8 &&& 31)))) Z)
    (c18 : (¬ 16 ≤ l9) → (¬ x1 = 0) → (¬ x2 = 0) → (¬ l5 = 0) → (¬ l5 = 0) → vp_in l8 (hL h (hR h l0 3)))
    (c19 : (¬ 16 ≤ l9) → (¬ x1 = 0) → (¬ x2 = 0) → (¬ l5 = 0) → (¬ l5 = 0) → vp_in l8 (hL h (hR h l0 3)))
    (k20 : (¬ 16 ≤ l9) → (¬ x1 = 0) → (¬ x2 = 0) → (¬ l5 = 0) → (¬ l5 = 0) → RR G nc ns m_X4_setChoices 41 [some (.ref l0), some (.long l1), none, some (.long l3), none, some (.int l5), some (.int l6), some (.int l7), some (.int (l8 + 1)), some (.int (l9 + 1)), none, none] [] (sI h (hR h l0 3) (Int32.toNatClampNeg l8) ((hI h (hR h l0 3) (Int32.toNatClampNeg l8)) ||| (1 <<< (l6 &&& 31)))) Z)
    (k21 : (¬ 16 ≤ l9) → (x1 = 0) → RR G nc ns m_X4_setChoices 41 [some (.ref l0), some (.long l1), none, some (.long l3), none, some (.int l5), some (.int l6), some (.int l7), some (.int l8), some (.int (l9 + 1)), none, none] [] h Z) :
    RR G nc ns m_X4_setChoices 41 [some (.ref l0), some (.long l1), none, some (.long l3), none, some (.int l5), some (.int l6), some (.int l7), some (.int l8), some (.int l9), none, none] [] h Z := by
  refine r_iload dX4_setChoices_41 rfl ?_
  refine r_bipush (v := 16) dX4_setChoices_43 (by decide) ?_
  refine r_icmp_ge 126 dX4_setChoices_45 (by decide) (fun q1 => ?_) (fun q1 => ?_)
  · refine r_iincL (v := l6 + 1) [some (.ref l0), some (.long l1), none, some (.long l3), none, some (.int l5), some (.int (l6 + 1)), some (.int l7), some (.int l8), some (.int l9), none, none] dX4_setChoices_126 rfl (by decide) rfl rfl ?_
    refine r_iincL (v := l7 + 1) [some (.ref l0), some (.long l1), none, some (.long l3), none, some (.int l5), some (.int (l6 + 1)), some (.int (l7 + 1)), some (.int l8), some (.int l9), none, none] dX4_setChoices_129 rfl (by decide) rfl rfl ?_
    refine r_goto (tgt := 14) dX4_setChoices_132 (by decide) ?_
    exact RR.sub (k1 q1) (And.intro rfl (And.intro rfl (And.intro rfl (And.intro rfl (And.intro rfl (And.intro rfl (trivial)))))))
  · refine r_lload_n dX4_setChoices_48 rfl ?_
    refine r_iload dX4_setChoices_49 rfl ?_
    refine r_callSN1 (mc := 0) (ms := 0) dX4_setChoices_51 ck_X5_contains sv_X5_contains lk_RX4_56 (by decide) (by decide) (As := [.long l3, .int l9]) rfl rfl (Nat.le_of_ble_eq_true rfl) (Or.inl rfl) (Or.inl rfl) (e2 q1) ?_
    refine r_if_ne 60 dX4_setChoices_54 (by decide) (fun q2 => ?_) (fun q2 => ?_)
    · refine r_aload_n dX4_setChoices_60 rfl ?_
      refine r_getR (c := 4) (k := 2) dX4_setChoices_61 rfl rfl (by decide) fl_RX4_19 (c3) rfl (c4) ?_
      refine r_iload dX4_setChoices_64 rfl ?_
      refine r_laloadJ (Int32.toNatClampNeg l7) dX4_setChoices_66 (c5) (c6 q1 q2) rfl ?_
      refine r_iload dX4_setChoices_67 rfl ?_
      refine r_callSN1 (mc := 0) (ms := 0) dX4_setChoices_69 ck_X5_contains sv_X5_contains lk_RX4_56 (by decide) (by decide) (As := [.long (hJ h (hR h l0 2) (Int32.toNatClampNeg l7)), .int l9]) rfl rfl (Nat.le_of_ble_eq_true rfl) (Or.inl rfl) (Or.inl rfl) (e7 q1 q2) ?_
      refine r_if_eq 117 dX4_setChoices_72 (by decide) (fun q3 => ?_) (fun q3 => ?_)
      · refine r_iincL (v := l8 + 1) [some (.ref l0), some (.long l1), none, some (.long l3), none, some (.int l5), some (.int l6), some (.int l7), some (.int (l8 + 1)), some (.int l9), none, none] dX4_setChoices_117 rfl (by decide) rfl rfl ?_
        refine r_iincL (v := l9 + 1) [some (.ref l0), some (.long l1), none, some (.long l3), none, some (.int l5), some (.int l6), some (.int l7), some (.int (l8 + 1)), some (.int (l9 + 1)), none, none] dX4_setChoices_120 rfl (by decide) rfl rfl ?_
        refine r_goto (tgt := 41) dX4_setChoices_123 (by decide) ?_
        exact k8 q1 q2 q3
      · refine r_iload dX4_setChoices_75 rfl ?_
        refine r_if_eq 85 dX4_setChoices_77 (by decide) (fun q4 => ?_) (fun q4 => ?_)
        · refine r_iload dX4_setChoices_85 rfl ?_
          refine r_istoreL [some (.ref l0), some (.long l1), none, some (.long l3), none, some (.int l5), some (.int l6), some (.int l7), some (.int l8), some (.int l9), some (.int l6), none] dX4_setChoices_87 (by decide) rfl ?_
          refine r_iload dX4_setChoices_89 rfl ?_
          refine r_if_eq 99 dX4_setChoices_91 (by decide) (fun q5 => ?_) (fun q5 => ?_)
          · refine r_iload dX4_setChoices_99 rfl ?_
            refine r_istoreL [some (.ref l0), some (.long l1), none, some (.long l3), none, some (.int l5), some (.int l6), some (.int l7), some (.int l8), some (.int l9), some (.int l6), some (.int l8)] dX4_setChoices_101 (by decide) rfl ?_
            refine r_aload_n dX4_setChoices_103 rfl ?_
            refine r_getR (c := 4) (k := 3) dX4_setChoices_104 rfl rfl (by decide) fl_RX4_23 (c3) rfl (c9) ?_
            refine r_iload dX4_setChoices_107 rfl ?_
            refine r_dup2 dX4_setChoices_109 rfl rfl ?_
            refine r_ialoadJ (Int32.toNatClampNeg l6) dX4_setChoices_110 (c10) (c11 q1 q2 q3 q4 q5) rfl ?_
            refine r_iconst (v := 1) dX4_setChoices_111 (by decide) ?_
            refine r_iload dX4_setChoices_112 rfl ?_
            refine r_ishl dX4_setChoices_114 ?_
            refine r_ior dX4_setChoices_115 ?_
            refine r_iastoreJ (Int32.toNatClampNeg l6) dX4_setChoices_116 (c10) (c11 q1 q2 q3 q4 q5) rfl ?_
            refine r_iincL (v := l8 + 1) [some (.ref l0), some (.long l1), none, some (.long l3), none, some (.int l5), some (.int l6), some (.int l7), some (.int (l8 + 1)), some (.int l9), some (.int l6), some (.int l8)] dX4_setChoices_117 rfl (by decide) rfl rfl ?_
            refine r_iincL (v := l9 + 1) [some (.ref l0), some (.long l1), none, some (.long l3), none, some (.int l5), some (.int l6), some (.int l7), some (.int (l8 + 1)), some (.int (l9 + 1)), some (.int l6), some (.int l8)] dX4_setChoices_120 rfl (by decide) rfl rfl ?_
            refine r_goto (tgt := 41) dX4_setChoices_123 (by decide) ?_
            exact RR.sub (k12 q1 q2 q3 q4 q5) (And.intro rfl (And.intro rfl (And.intro rfl (And.intro rfl (And.intro rfl (And.intro rfl (And.intro rfl (And.intro rfl (trivial)))))))))
          · refine r_iload dX4_setChoices_94 rfl ?_
            refine r_goto (tgt := 101) dX4_setChoices_96 (by decide) ?_
            refine r_istoreL [some (.ref l0), some (.long l1), none, some (.long l3), none, some (.int l5), some (.int l6), some (.int l7), some (.int l8), some (.int l9), some (.int l6), some (.int l6)] dX4_setChoices_101 (by decide) rfl ?_
            refine r_aload_n dX4_setChoices_103 rfl ?_
            refine r_getR (c := 4) (k := 3) dX4_setChoices_104 rfl rfl (by decide) fl_RX4_23 (c3) rfl (c9) ?_
            refine r_iload dX4_setChoices_107 rfl ?_
            refine r_dup2 dX4_setChoices_109 rfl rfl ?_
            refine r_ialoadJ (Int32.toNatClampNeg l6) dX4_setChoices_110 (c10) (c13 q1 q2 q3 q4 q5) rfl ?_
            refine r_iconst (v := 1) dX4_setChoices_111 (by decide) ?_
            refine r_iload dX4_setChoices_112 rfl ?_
            refine r_ishl dX4_setChoices_114 ?_
            refine r_ior dX4_setChoices_115 ?_
            refine r_iastoreJ (Int32.toNatClampNeg l6) dX4_setChoices_116 (c10) (c14 q1 q2 q3 q4 q5) rfl ?_
            refine r_iincL (v := l8 + 1) [some (.ref l0), some (.long l1), none, some (.long l3), none, some (.int l5), some (.int l6), some (.int l7), some (.int (l8 + 1)), some (.int l9), some (.int l6), some (.int l6)] dX4_setChoices_117 rfl (by decide) rfl rfl ?_
            refine r_iincL (v := l9 + 1) [some (.ref l0), some (.long l1), none, some (.long l3), none, some (.int l5), some (.int l6), some (.int l7), some (.int (l8 + 1)), some (.int (l9 + 1)), some (.int l6), some (.int l6)] dX4_setChoices_120 rfl (by decide) rfl rfl ?_
            refine r_goto (tgt := 41) dX4_setChoices_123 (by decide) ?_
            exact RR.sub (k15 q1 q2 q3 q4 q5) (And.intro rfl (And.intro rfl (And.intro rfl (And.intro rfl (And.intro rfl (And.intro rfl (And.intro rfl (And.intro rfl (trivial)))))))))
        · refine r_iload dX4_setChoices_80 rfl ?_
          refine r_goto (tgt := 87) dX4_setChoices_82 (by decide) ?_
          refine r_istoreL [some (.ref l0), some (.long l1), none, some (.long l3), none, some (.int l5), some (.int l6), some (.int l7), some (.int l8), some (.int l9), some (.int l8), none] dX4_setChoices_87 (by decide) rfl ?_
          refine r_iload dX4_setChoices_89 rfl ?_
          refine r_if_eq 99 dX4_setChoices_91 (by decide) (fun q6 => ?_) (fun q6 => ?_)
          · refine r_iload dX4_setChoices_99 rfl ?_
            refine r_istoreL [some (.ref l0), some (.long l1), none, some (.long l3), none, some (.int l5), some (.int l6), some (.int l7), some (.int l8), some (.int l9), some (.int l8), some (.int l8)] dX4_setChoices_101 (by decide) rfl ?_
            refine r_aload_n dX4_setChoices_103 rfl ?_
            refine r_getR (c := 4) (k := 3) dX4_setChoices_104 rfl rfl (by decide) fl_RX4_23 (c3) rfl (c9) ?_
            refine r_iload dX4_setChoices_107 rfl ?_
            refine r_dup2 dX4_setChoices_109 rfl rfl ?_
            refine r_ialoadJ (Int32.toNatClampNeg l8) dX4_setChoices_110 (c10) (c16 q1 q2 q3 q4 q6) rfl ?_
            refine r_iconst (v := 1) dX4_setChoices_111 (by decide) ?_
            refine r_iload dX4_setChoices_112 rfl ?_
            refine r_ishl dX4_setChoices_114 ?_
            refine r_ior dX4_setChoices_115 ?_
            refine r_iastoreJ (Int32.toNatClampNeg l8) dX4_setChoices_116 (c10) (c16 q1 q2 q3 q4 q6) rfl ?_
            refine r_iincL (v := l8 + 1) [some (.ref l0), some (.long l1), none, some (.long l3), none, some (.int l5), some (.int l6), some (.int l7), some (.int (l8 + 1)), some (.int l9), some (.int l8), some (.int l8)] dX4_setChoices_117 rfl (by decide) rfl rfl ?_
            refine r_iincL (v := l9 + 1) [some (.ref l0), some (.long l1), none, some (.long l3), none, some (.int l5), some (.int l6), some (.int l7), some (.int (l8 + 1)), some (.int (l9 + 1)), some (.int l8), some (.int l8)] dX4_setChoices_120 rfl (by decide) rfl rfl ?_
            refine r_goto (tgt := 41) dX4_setChoices_123 (by decide) ?_
            exact RR.sub (k17 q1 q2 q3 q4 q6) (And.intro rfl (And.intro rfl (And.intro rfl (And.intro rfl (And.intro rfl (And.intro rfl (And.intro rfl (And.intro rfl (trivial)))))))))
          · refine r_iload dX4_setChoices_94 rfl ?_
            refine r_goto (tgt := 101) dX4_setChoices_96 (by decide) ?_
            refine r_istoreL [some (.ref l0), some (.long l1), none, some (.long l3), none, some (.int l5), some (.int l6), some (.int l7), some (.int l8), some (.int l9), some (.int l8), some (.int l6)] dX4_setChoices_101 (by decide) rfl ?_
            refine r_aload_n dX4_setChoices_103 rfl ?_
            refine r_getR (c := 4) (k := 3) dX4_setChoices_104 rfl rfl (by decide) fl_RX4_23 (c3) rfl (c9) ?_
            refine r_iload dX4_setChoices_107 rfl ?_
            refine r_dup2 dX4_setChoices_109 rfl rfl ?_
            refine r_ialoadJ (Int32.toNatClampNeg l8) dX4_setChoices_110 (c10) (c18 q1 q2 q3 q4 q6) rfl ?_
            refine r_iconst (v := 1) dX4_setChoices_111 (by decide) ?_
            refine r_iload dX4_setChoices_112 rfl ?_
            refine r_ishl dX4_setChoices_114 ?_
            refine r_ior dX4_setChoices_115 ?_
            refine r_iastoreJ (Int32.toNatClampNeg l8) dX4_setChoices_116 (c10) (c19 q1 q2 q3 q4 q6) rfl ?_
            refine r_iincL (v := l8 + 1) [some (.ref l0), some (.long l1), none, some (.long l3), none, some (.int l5), some (.int l6), some (.int l7), some (.int (l8 + 1)), some (.int l9), some (.int l8), some (.int l6)] dX4_setChoices_117 rfl (by decide) rfl rfl ?_
            refine r_iincL (v := l9 + 1) [some (.ref l0), some (.long l1), none, some (.long l3), none, some (.int l5), some (.int l6), some (.int l7), some (.int (l8 + 1)), some (.int (l9 + 1)), some (.int l8), some (.int l6)] dX4_setChoices_120 rfl (by decide) rfl rfl ?_
            refine r_goto (tgt := 41) dX4_setChoices_123 (by decide) ?_
            exact RR.sub (k20 q1 q2 q3 q4 q6) (And.intro rfl (And.intro rfl (And.intro rfl (And.intro rfl (And.intro rfl (And.intro rfl (And.intro rfl (And.intro rfl (trivial)))))))))
    · refine r_goto (tgt := 120) dX4_setChoices_57 (by decide) ?_
      refine r_iincL (v := l9 + 1) [some (.ref l0), some (.long l1), none, some (.long l3), none, some (.int l5), some (.int l6), some (.int l7), some (.int l8), some (.int (l9 + 1)), none, none] dX4_setChoices_120 rfl (by decide) rfl rfl ?_
      refine r_goto (tgt := 41) dX4_setChoices_123 (by decide) ?_
      exact k21 q1 q2

set_option maxRecDepth 20000 in
set_option maxHeartbeats 2000000 in
theorem s_X4_waysToChoose_0 {G : GG} {nc ns : Nat} {h : PH} {Z : Option Value → PH → Prop} {l0 : Nat} {l1 : Int32} {l2 : Int32} {n1 : Nat}
    (c1 : hK h l0 = 14)
    (c2 : (hR h l0 4) ≠ 0)
    (c3 : ((ak (hK h (hR h l0 4))).isSome = true ∨ hK h (hR h l0 4) = 1))
    (k4 : ((1 <<< ((if 16 < l2 then 16 else l2) &&& 31)) ≤ (nI (hL h (hR h l0 4)))) → RR G nc ns m_X4_waysToChoose 28 [some (.ref l0), some (.int l1), some (.int l2), some (.int (1 <<< ((if 16 < l2 then 16 else l2) &&& 31))), some (.int 1), none, none, none, none, none] [] h Z)
    (c5 : (¬ (1 <<< ((if 16 < l2 then 16 else l2) &&& 31)) ≤ (nI (hL h (hR h l0 4)))) → ¬ (1 <<< ((if 16 < l2 then 16 else l2) &&& 31)) < 0)
    (c6 : (¬ (1 <<< ((if 16 < l2 then 16 else l2) &&& 31)) ≤ (nI (hL h (hR h l0 4)))) → Int32.toNatClampNeg (1 <<< ((if 16 < l2 then 16 else l2) &&& 31)) = n1)
    (c7 : (¬ (1 <<< ((if 16 < l2 then 16 else l2) &&& 31)) ≤ (nI (hL h (hR h l0 4)))) → n1 * 8 ≤ 536870912)
    (c8 : (hN h) + 1 ≤ nc)
    (c9 : (hS h) + n1 ≤ ns)
    (c10 : hK (nA h 3 n1) l0 = 14)
    (c11 : (hN h) ≠ 0)
    (k12 : (¬ (1 <<< ((if 16 < l2 then 16 else l2) &&& 31)) ≤ (nI (hL h (hR h l0 4)))) → RR G nc ns m_X4_waysToChoose 28 [some (.ref l0), some (.int l1), some (.int l2), some (.int (1 <<< ((if 16 < l2 then 16 else l2) &&& 31))), some (.int 1), none, none, none, none, none] [] (sR (nA h 3 n1) l0 4 (hN h)) Z) :
    RR G nc ns m_X4_waysToChoose 0 [some (.ref l0), some (.int l1), some (.int l2), none, none, none, none, none, none, none] [] h Z := by
  refine r_iconst (v := 1) dX4_waysToChoose_0 (by decide) ?_
  refine r_iload_n dX4_waysToChoose_1 rfl ?_
  refine r_bipush (v := 16) dX4_waysToChoose_2 (by decide) ?_
  refine r_mmin dX4_waysToChoose_4 lk_RX4_73 (by decide) (by decide) (Nat.le_of_ble_eq_true rfl) ?_
  refine r_ishl dX4_waysToChoose_7 ?_
  refine r_istore_nL [some (.ref l0), some (.int l1), some (.int l2), some (.int (1 <<< ((if 16 < l2 then 16 else l2) &&& 31))), none, none, none, none, none, none] dX4_waysToChoose_8 (by decide) rfl ?_
  refine r_aload_n dX4_waysToChoose_9 rfl ?_
  refine r_getR (c := 4) (k := 4) dX4_waysToChoose_10 rfl rfl (by decide) fl_RX4_27 (c1) rfl (c2) ?_
  refine r_alen dX4_waysToChoose_13 (c3) ?_
  refine r_iload_n dX4_waysToChoose_14 rfl ?_
  refine r_icmp_ge 25 dX4_waysToChoose_15 (by decide) (fun q1 => ?_) (fun q1 => ?_)
  · refine r_iconst (v := 1) dX4_waysToChoose_25 (by decide) ?_
    refine r_istoreL [some (.ref l0), some (.int l1), some (.int l2), some (.int (1 <<< ((if 16 < l2 then 16 else l2) &&& 31))), some (.int 1), none, none, none, none, none] dX4_waysToChoose_26 (by decide) rfl ?_
    exact k4 q1
  · refine r_aload_n dX4_waysToChoose_18 rfl ?_
    refine r_iload_n dX4_waysToChoose_19 rfl ?_
    refine r_newarray (kd := 3) (N := n1) dX4_waysToChoose_20 rfl rfl rfl ac_long (c5 q1) (c6 q1) (nb_long (c7 q1)) (c8) (c9) ?_
    refine r_putR (c := 4) (k := 4) dX4_waysToChoose_22 rfl rfl (by decide) fl_RX4_27 (c10) (Or.inl rfl) rfl (c11) ?_
    refine r_iconst (v := 1) dX4_waysToChoose_25 (by decide) ?_
    refine r_istoreL [some (.ref l0), some (.int l1), some (.int l2), some (.int (1 <<< ((if 16 < l2 then 16 else l2) &&& 31))), some (.int 1), none, none, none, none, none] dX4_waysToChoose_26 (by decide) rfl ?_
    exact k12 q1

set_option maxRecDepth 20000 in
set_option maxHeartbeats 2000000 in
theorem s_X4_waysToChoose_28 {G : GG} {nc ns : Nat} {h : PH} {Z : Option Value → PH → Prop} {l0 : Nat} {l1 : Int32} {l2 : Int32} {l3 : Int32} {l4 : Int32}
    (c1 : hK h l0 = 14)
    (c2 : (hR h l0 4) ≠ 0)
    (c3 : hK h (hR h l0 4) = 3)
    (c4 : (l3 ≤ l4) → vp_in 0 (hL h (hR h l0 4)))
    (k5 : (l3 ≤ l4) → RR G nc ns m_X4_waysToChoose 61 [some (.ref l0), some (.int l1), some (.int l2), some (.int l3), some (.long 0), none, some (.int 0), none, none, none] [] (sJ h (hR h l0 4) 0 1) Z)
    (c6 : (¬ l3 ≤ l4) → vp_in l4 (hL h (hR h l0 4)))
    (k7 : (¬ l3 ≤ l4) → RR G nc ns m_X4_waysToChoose 28 [some (.ref l0), some (.int l1), some (.int l2), some (.int l3), some (.int (l4 + 1)), none, none, none, none, none] [] (sJ h (hR h l0 4) (Int32.toNatClampNeg l4) 0) Z) :
    RR G nc ns m_X4_waysToChoose 28 [some (.ref l0), some (.int l1), some (.int l2), some (.int l3), some (.int l4), none, none, none, none, none] [] h Z := by
  refine r_iload dX4_waysToChoose_28 rfl ?_
  refine r_iload_n dX4_waysToChoose_30 rfl ?_
  refine r_icmp_ge 48 dX4_waysToChoose_31 (by decide) (fun q1 => ?_) (fun q1 => ?_)
  · refine r_aload_n dX4_waysToChoose_48 rfl ?_
    refine r_getR (c := 4) (k := 4) dX4_waysToChoose_49 rfl rfl (by decide) fl_RX4_27 (c1) rfl (c2) ?_
    refine r_iconst (v := 0) dX4_waysToChoose_52 (by decide) ?_
    refine r_lconst (v := 1) dX4_waysToChoose_53 (by decide) ?_
    refine r_lastoreJ 0 dX4_waysToChoose_54 (c3) (c4 q1) (by decide) ?_
    refine r_lconst (v := 0) dX4_waysToChoose_55 (by decide) ?_
    refine r_lstoreL [some (.ref l0), some (.int l1), some (.int l2), some (.int l3), some (.long 0), none, none, none, none, none] dX4_waysToChoose_56 (by decide) rfl ?_
    refine r_iconst (v := 0) dX4_waysToChoose_58 (by decide) ?_
    refine r_istoreL [some (.ref l0), some (.int l1), some (.int l2), some (.int l3), some (.long 0), none, some (.int 0), none, none, none] dX4_waysToChoose_59 (by decide) rfl ?_
    exact k5 q1
  · refine r_aload_n dX4_waysToChoose_34 rfl ?_
    refine r_getR (c := 4) (k := 4) dX4_waysToChoose_35 rfl rfl (by decide) fl_RX4_27 (c1) rfl (c2) ?_
    refine r_iload dX4_waysToChoose_38 rfl ?_
    refine r_lconst (v := 0) dX4_waysToChoose_40 (by decide) ?_
    refine r_lastoreJ (Int32.toNatClampNeg l4) dX4_waysToChoose_41 (c3) (c6 q1) rfl ?_
    refine r_iincL (v := l4 + 1) [some (.ref l0), some (.int l1), some (.int l2), some (.int l3), some (.int (l4 + 1)), none, none, none, none, none] dX4_waysToChoose_42 rfl (by decide) rfl rfl ?_
    refine r_goto (tgt := 28) dX4_waysToChoose_45 (by decide) ?_
    exact k7 q1

set_option maxRecDepth 20000 in
set_option maxHeartbeats 2000000 in
theorem s_X4_waysToChoose_61 {G : GG} {nc ns : Nat} {h : PH} {Z : Option Value → PH → Prop} {l0 : Nat} {l1 : Int32} {l2 : Int32} {l3 : Int32} {l4 : Int64} {l6 : Int32} {x1 : Int32}
    (k1 : (l3 ≤ l6) → Z (some (.long l4)) h)
    (e2 : (¬ l3 ≤ l6) → Ev G m_J6_bitCount_0f7a4 [.int l6] h 0 0 (Ret (some (.int x1)) h))
    (c3 : hK h l0 = 14)
    (c4 : (hR h l0 4) ≠ 0)
    (c5 : hK h (hR h l0 4) = 3)
    (c6 : (¬ l3 ≤ l6) → vp_in l6 (hL h (hR h l0 4)))
    (k7 : (¬ l3 ≤ l6) → ((lg_cmp (hJ h (hR h l0 4) (Int32.toNatClampNeg l6)) 0) = 0) → RR G nc ns m_X4_waysToChoose 61 [some (.ref l0), some (.int l1), some (.int l2), some (.int l3), some (.long l4), none, some (.int (l6 + 1)), none, none, none] [] h Z)
    (c8 : (hR h l0 3) ≠ 0)
    (c9 : hK h (hR h l0 3) = 2)
    (c10 : (¬ l3 ≤ l6) → (¬ (lg_cmp (hJ h (hR h l0 4) (Int32.toNatClampNeg l6)) 0) = 0) → (x1 ≤ l1) → (¬ x1 = l1) → vp_in x1 (hL h (hR h l0 3)))
    (k11 : (¬ l3 ≤ l6) → (¬ (lg_cmp (hJ h (hR h l0 4) (Int32.toNatClampNeg l6)) 0) = 0) → (x1 ≤ l1) → (¬ x1 = l1) → RR G nc ns m_X4_waysToChoose 133 [some (.ref l0), some (.int l1), some (.int l2), some (.int l3), some (.long l4), none, some (.int l6), some (.int x1), some (.int ((hI h (hR h l0 3) (Int32.toNatClampNeg x1)) &&& (l6 ^^^ (-1)))), some (.int 1)] [] h Z)
    (k12 : (¬ l3 ≤ l6) → (¬ (lg_cmp (hJ h (hR h l0 4) (Int32.toNatClampNeg l6)) 0) = 0) → (x1 ≤ l1) → (x1 = l1) → RR G nc ns m_X4_waysToChoose 61 [some (.ref l0), some (.int l1), some (.int l2), some (.int l3), some (.long (l4 + (hJ h (hR h l0 4) (Int32.toNatClampNeg l6)))), none, some (.int (l6 + 1)), none, none, none] [] h Z)
    (k13 : (¬ l3 ≤ l6) → (¬ (lg_cmp (hJ h (hR h l0 4) (Int32.toNatClampNeg l6)) 0) = 0) → (¬ x1 ≤ l1) → RR G nc ns m_X4_waysToChoose 61 [some (.ref l0), some (.int l1), some (.int l2), some (.int l3), some (.long l4), none, some (.int (l6 + 1)), none, none, none] [] h Z) :
    RR G nc ns m_X4_waysToChoose 61 [some (.ref l0), some (.int l1), some (.int l2), some (.int l3), some (.long l4), none, some (.int l6), none, none, none] [] h Z := by
  refine r_iload dX4_waysToChoose_61 rfl ?_
  refine r_iload_n dX4_waysToChoose_63 rfl ?_
  refine r_icmp_ge 182 dX4_waysToChoose_64 (by decide) (fun q1 => ?_) (fun q1 => ?_)
  · refine r_lload dX4_waysToChoose_182 rfl ?_
    exact r_lreturn dX4_waysToChoose_184 rfl (k1 q1)
  · refine r_iload dX4_waysToChoose_67 rfl ?_
    refine r_callS1 (mc := 0) (ms := 0) dX4_waysToChoose_69 ck_J6_bitCount_0f7a4 sv_J6_bitCount_0f7a4 lk_RX4_99 (by decide) (by decide) (As := [.int l6]) rfl rfl (Nat.le_of_ble_eq_true rfl) (Or.inl rfl) (Or.inl rfl) (e2 q1) ?_
    refine r_istoreL [some (.ref l0), some (.int l1), some (.int l2), some (.int l3), some (.long l4), none, some (.int l6), some (.int x1), none, none] dX4_waysToChoose_72 (by decide) rfl ?_
    refine r_aload_n dX4_waysToChoose_74 rfl ?_
    refine r_getR (c := 4) (k := 4) dX4_waysToChoose_75 rfl rfl (by decide) fl_RX4_27 (c3) rfl (c4) ?_
    refine r_iload dX4_waysToChoose_78 rfl ?_
    refine r_laloadJ (Int32.toNatClampNeg l6) dX4_waysToChoose_80 (c5) (c6 q1) rfl ?_
    refine r_lconst (v := 0) dX4_waysToChoose_81 (by decide) ?_
    refine r_lcmp dX4_waysToChoose_82 ?_
    refine r_if_eq 176 dX4_waysToChoose_83 (by decide) (fun q2 => ?_) (fun q2 => ?_)
    · refine r_iincL (v := l6 + 1) [some (.ref l0), some (.int l1), some (.int l2), some (.int l3), some (.long l4), none, some (.int (l6 + 1)), some (.int x1), none, none] dX4_waysToChoose_176 rfl (by decide) rfl rfl ?_
      refine r_goto (tgt := 61) dX4_waysToChoose_179 (by decide) ?_
      exact RR.sub (k7 q1 q2) (And.intro rfl (And.intro rfl (And.intro rfl (And.intro rfl (And.intro rfl (And.intro rfl (trivial)))))))
    · refine r_iload dX4_waysToChoose_86 rfl ?_
      refine r_iload_n dX4_waysToChoose_88 rfl ?_
      refine r_icmp_le 95 dX4_waysToChoose_89 (by decide) (fun q3 => ?_) (fun q3 => ?_)
      · refine r_iload dX4_waysToChoose_95 rfl ?_
        refine r_iload_n dX4_waysToChoose_97 rfl ?_
        refine r_icmp_ne 116 dX4_waysToChoose_98 (by decide) (fun q4 => ?_) (fun q4 => ?_)
        · refine r_aload_n dX4_waysToChoose_116 rfl ?_
          refine r_getR (c := 4) (k := 3) dX4_waysToChoose_117 rfl rfl (by decide) fl_RX4_23 (c3) rfl (c8) ?_
          refine r_iload dX4_waysToChoose_120 rfl ?_
          refine r_ialoadJ (Int32.toNatClampNeg x1) dX4_waysToChoose_122 (c9) (c10 q1 q2 q3 q4) rfl ?_
          refine r_iload dX4_waysToChoose_123 rfl ?_
          refine r_iconst (v := (-1)) dX4_waysToChoose_125 (by decide) ?_
          refine r_ixor dX4_waysToChoose_126 ?_
          refine r_iand dX4_waysToChoose_127 ?_
          refine r_istoreL [some (.ref l0), some (.int l1), some (.int l2), some (.int l3), some (.long l4), none, some (.int l6), some (.int x1), some (.int ((hI h (hR h l0 3) (Int32.toNatClampNeg x1)) &&& (l6 ^^^ (-1)))), none] dX4_waysToChoose_128 (by decide) rfl ?_
          refine r_iconst (v := 1) dX4_waysToChoose_130 (by decide) ?_
          refine r_istoreL [some (.ref l0), some (.int l1), some (.int l2), some (.int l3), some (.long l4), none, some (.int l6), some (.int x1), some (.int ((hI h (hR h l0 3) (Int32.toNatClampNeg x1)) &&& (l6 ^^^ (-1)))), some (.int 1)] dX4_waysToChoose_131 (by decide) rfl ?_
          exact k11 q1 q2 q3 q4
        · refine r_lload dX4_waysToChoose_101 rfl ?_
          refine r_aload_n dX4_waysToChoose_103 rfl ?_
          refine r_getR (c := 4) (k := 4) dX4_waysToChoose_104 rfl rfl (by decide) fl_RX4_27 (c3) rfl (c4) ?_
          refine r_iload dX4_waysToChoose_107 rfl ?_
          refine r_laloadJ (Int32.toNatClampNeg l6) dX4_waysToChoose_109 (c5) (c6 q1) rfl ?_
          refine r_ladd dX4_waysToChoose_110 ?_
          refine r_lstoreL [some (.ref l0), some (.int l1), some (.int l2), some (.int l3), some (.long (l4 + (hJ h (hR h l0 4) (Int32.toNatClampNeg l6)))), none, some (.int l6), some (.int x1), none, none] dX4_waysToChoose_111 (by decide) rfl ?_
          refine r_goto (tgt := 176) dX4_waysToChoose_113 (by decide) ?_
          refine r_iincL (v := l6 + 1) [some (.ref l0), some (.int l1), some (.int l2), some (.int l3), some (.long (l4 + (hJ h (hR h l0 4) (Int32.toNatClampNeg l6)))), none, some (.int (l6 + 1)), some (.int x1), none, none] dX4_waysToChoose_176 rfl (by decide) rfl rfl ?_
          refine r_goto (tgt := 61) dX4_waysToChoose_179 (by decide) ?_
          exact RR.sub (k12 q1 q2 q3 q4) (And.intro rfl (And.intro rfl (And.intro rfl (And.intro rfl (And.intro rfl (And.intro rfl (trivial)))))))
      · refine r_goto (tgt := 176) dX4_waysToChoose_92 (by decide) ?_
        refine r_iincL (v := l6 + 1) [some (.ref l0), some (.int l1), some (.int l2), some (.int l3), some (.long l4), none, some (.int (l6 + 1)), some (.int x1), none, none] dX4_waysToChoose_176 rfl (by decide) rfl rfl ?_
        refine r_goto (tgt := 61) dX4_waysToChoose_179 (by decide) ?_
        exact RR.sub (k13 q1 q2 q3) (And.intro rfl (And.intro rfl (And.intro rfl (And.intro rfl (And.intro rfl (And.intro rfl (trivial)))))))

set_option maxRecDepth 20000 in
set_option maxHeartbeats 2000000 in
theorem s_X4_waysToChoose_133 {G : GG} {nc ns : Nat} {h : PH} {Z : Option Value → PH → Prop} {l0 : Nat} {l1 : Int32} {l2 : Int32} {l3 : Int32} {l4 : Int64} {l6 : Int32} {l7 : Int32} {l8 : Int32} {l9 : Int32}
    (k1 : (l3 ≤ l9) → RR G nc ns m_X4_waysToChoose 61 [some (.ref l0), some (.int l1), some (.int l2), some (.int l3), some (.long l4), none, some (.int (l6 + 1)), none, none, none] [] h Z)
    (k2 : (¬ l3 ≤ l9) → ((l8 &&& l9) = 0) → RR G nc ns m_X4_waysToChoose 133 [some (.ref l0), some (.int l1), some (.int l2), some (.int l3), some (.long l4), none, some (.int l6), some (.int l7), some (.int l8), some (.int (l9 <<< (1 &&& 31)))] [] h Z)
    (c3 : hK h l0 = 14)
    (c4 : (hR h l0 4) ≠ 0)
    (c5 : hK h (hR h l0 4) = 3)
    (c6 : (¬ l3 ≤ l9) → (¬ (l8 &&& l9) = 0) → vp_in (l6 ||| l9) (hL h (hR h l0 4)))
    (c7 : (¬ l3 ≤ l9) → (¬ (l8 &&& l9) = 0) → vp_in l6 (hL h (hR h l0 4)))
    (k8 : (¬ l3 ≤ l9) → (¬ (l8 &&& l9) = 0) → RR G nc ns m_X4_waysToChoose 133 [some (.ref l0), some (.int l1), some (.int l2), some (.int l3), some (.long l4), none, some (.int l6), some (.int l7), some (.int l8), some (.int (l9 <<< (1 &&& 31)))] [] (sJ h (hR h l0 4) (Int32.toNatClampNeg (l6 ||| l9)) ((hJ h (hR h l0 4) (Int32.toNatClampNeg (l6 ||| l9))) + (hJ h (hR h l0 4) (Int32.toNatClampNeg l6)))) Z) :
    RR G nc ns m_X4_waysToChoose 133 [some (.ref l0), some (.int l1), some (.int l2), some (.int l3), some (.long l4), none, some (.int l6), some (.int l7), some (.int l8), some (.int l9)] [] h Z := by
  refine r_iload dX4_waysToChoose_133 rfl ?_
  refine r_iload_n dX4_waysToChoose_135 rfl ?_
  refine r_icmp_ge 176 dX4_waysToChoose_136 (by decide) (fun q1 => ?_) (fun q1 => ?_)
  · refine r_iincL (v := l6 + 1) [some (.ref l0), some (.int l1), some (.int l2), some (.int l3), some (.long l4), none, some (.int (l6 + 1)), some (.int l7), some (.int l8), some (.int l9)] dX4_waysToChoose_176 rfl (by decide) rfl rfl ?_
    refine r_goto (tgt := 61) dX4_waysToChoose_179 (by decide) ?_
    exact RR.sub (k1 q1) (And.intro rfl (And.intro rfl (And.intro rfl (And.intro rfl (And.intro rfl (And.intro rfl (trivial)))))))
  · refine r_iload dX4_waysToChoose_139 rfl ?_
    refine r_iload dX4_waysToChoose_141 rfl ?_
    refine r_iand dX4_waysToChoose_143 ?_
    refine r_if_eq 167 dX4_waysToChoose_144 (by decide) (fun q2 => ?_) (fun q2 => ?_)
    · refine r_iload dX4_waysToChoose_167 rfl ?_
      refine r_iconst (v := 1) dX4_waysToChoose_169 (by decide) ?_
      refine r_ishl dX4_waysToChoose_170 ?_
      refine r_istoreL [some (.ref l0), some (.int l1), some (.int l2), some (.int l3), some (.long l4), none, some (.int l6), some (.int l7), some (.int l8), some (.int (l9 <<< (1 &&& 31)))] dX4_waysToChoose_171 (by decide) rfl ?_
      refine r_goto (tgt := 133) dX4_waysToChoose_173 (by decide) ?_
      exact k2 q1 q2
    · refine r_aload_n dX4_waysToChoose_147 rfl ?_
      refine r_getR (c := 4) (k := 4) dX4_waysToChoose_148 rfl rfl (by decide) fl_RX4_27 (c3) rfl (c4) ?_
      refine r_iload dX4_waysToChoose_151 rfl ?_
      refine r_iload dX4_waysToChoose_153 rfl ?_
      refine r_ior dX4_waysToChoose_155 ?_
      refine r_dup2 dX4_waysToChoose_156 rfl rfl ?_
      refine r_laloadJ (Int32.toNatClampNeg (l6 ||| l9)) dX4_waysToChoose_157 (c5) (c6 q1 q2) rfl ?_
      refine r_aload_n dX4_waysToChoose_158 rfl ?_
      refine r_getR (c := 4) (k := 4) dX4_waysToChoose_159 rfl rfl (by decide) fl_RX4_27 (c3) rfl (c4) ?_
      refine r_iload dX4_waysToChoose_162 rfl ?_
      refine r_laloadJ (Int32.toNatClampNeg l6) dX4_waysToChoose_164 (c5) (c7 q1 q2) rfl ?_
      refine r_ladd dX4_waysToChoose_165 ?_
      refine r_lastoreJ (Int32.toNatClampNeg (l6 ||| l9)) dX4_waysToChoose_166 (c5) (c6 q1 q2) rfl ?_
      refine r_iload dX4_waysToChoose_167 rfl ?_
      refine r_iconst (v := 1) dX4_waysToChoose_169 (by decide) ?_
      refine r_ishl dX4_waysToChoose_170 ?_
      refine r_istoreL [some (.ref l0), some (.int l1), some (.int l2), some (.int l3), some (.long l4), none, some (.int l6), some (.int l7), some (.int l8), some (.int (l9 <<< (1 &&& 31)))] dX4_waysToChoose_171 (by decide) rfl ?_
      refine r_goto (tgt := 133) dX4_waysToChoose_173 (by decide) ?_
      exact k8 q1 q2

set_option maxRecDepth 20000 in
set_option maxHeartbeats 2000000 in
theorem s_X2_init_0 {G : GG} {nc ns : Nat} {h : PH} {Z : Option Value → PH → Prop} {l0 : Nat} {l1 : Nat} {l2 : Nat}
    (c1 : hK h l0 = 12)
    (c2 : l1 ≠ 0)
    (k3 : RR G nc ns m_X2_init 9 [some (.ref l0), some (.ref l1), some (.ref l2)] [] (sR h l0 0 l1) Z) :
    RR G nc ns m_X2_init 0 [some (.ref l0), some (.ref l1), some (.ref l2)] [] h Z := by
  refine r_aload_n dX2_init_0 rfl ?_
  refine r_objInit dX2_init_1 lk_RX2_3 iv_obj cd_obj (by decide) (by decide) (Nat.le_of_ble_eq_true rfl) ?_
  refine r_aload_n dX2_init_4 rfl ?_
  refine r_aload_n dX2_init_5 rfl ?_
  refine r_putR (c := 2) (k := 0) dX2_init_6 rfl rfl (by decide) fl_RX2_9 (c1) (Or.inr ⟨rfl, rfl, rfl⟩) rfl (c2) ?_
  exact k3

set_option maxRecDepth 20000 in
set_option maxHeartbeats 2000000 in
theorem s_X2_init_9 {G : GG} {nc ns : Nat} {h : PH} {Z : Option Value → PH → Prop} {l0 : Nat} {l1 : Nat} {l2 : Nat}
    (c1 : hK h l0 = 12)
    (c2 : l2 ≠ 0)
    (k3 : RR G nc ns m_X2_init 14 [some (.ref l0), some (.ref l1), some (.ref l2)] [] (sR h l0 1 l2) Z) :
    RR G nc ns m_X2_init 9 [some (.ref l0), some (.ref l1), some (.ref l2)] [] h Z := by
  refine r_aload_n dX2_init_9 rfl ?_
  refine r_aload_n dX2_init_10 rfl ?_
  refine r_putR (c := 2) (k := 1) dX2_init_11 rfl rfl (by decide) fl_RX2_15 (c1) (Or.inr ⟨rfl, rfl, rfl⟩) rfl (c2) ?_
  exact k3

set_option maxRecDepth 20000 in
set_option maxHeartbeats 2000000 in
theorem s_X2_init_14 {G : GG} {nc ns : Nat} {h : PH} {Z : Option Value → PH → Prop} {l0 : Nat} {l1 : Nat} {l2 : Nat}
    (c1 : (hN h) + 1 ≤ nc)
    (c2 : (hS h) + 40 ≤ ns)
    (c3 : hK (nA h 2 40) l0 = 12)
    (c4 : (hN h) ≠ 0)
    (k5 : RR G nc ns m_X2_init 22 [some (.ref l0), some (.ref l1), some (.ref l2)] [] (sR (nA h 2 40) l0 2 (hN h)) Z) :
    RR G nc ns m_X2_init 14 [some (.ref l0), some (.ref l1), some (.ref l2)] [] h Z := by
  refine r_aload_n dX2_init_14 rfl ?_
  refine r_bipush (v := 40) dX2_init_15 (by decide) ?_
  refine r_newarray (kd := 2) (N := 40) dX2_init_17 rfl rfl rfl ac_int (by decide) (by decide) (by decide) (c1) (c2) ?_
  refine r_putR (c := 2) (k := 2) dX2_init_19 rfl rfl (by decide) fl_RX2_19 (c3) (Or.inr ⟨rfl, rfl, rfl⟩) rfl (c4) ?_
  exact k5

set_option maxRecDepth 20000 in
set_option maxHeartbeats 2000000 in
theorem s_X2_init_22 {G : GG} {nc ns : Nat} {h : PH} {Z : Option Value → PH → Prop} {l0 : Nat} {l1 : Nat} {l2 : Nat}
    (c1 : (hN h) + 1 ≤ nc)
    (c2 : (hS h) + 40 ≤ ns)
    (c3 : hK (nA h 2 40) l0 = 12)
    (c4 : (hN h) ≠ 0)
    (k5 : RR G nc ns m_X2_init 30 [some (.ref l0), some (.ref l1), some (.ref l2)] [] (sR (nA h 2 40) l0 3 (hN h)) Z) :
    RR G nc ns m_X2_init 22 [some (.ref l0), some (.ref l1), some (.ref l2)] [] h Z := by
  refine r_aload_n dX2_init_22 rfl ?_
  refine r_bipush (v := 40) dX2_init_23 (by decide) ?_
  refine r_newarray (kd := 2) (N := 40) dX2_init_25 rfl rfl rfl ac_int (by decide) (by decide) (by decide) (c1) (c2) ?_
  refine r_putR (c := 2) (k := 3) dX2_init_27 rfl rfl (by decide) fl_RX2_23 (c3) (Or.inr ⟨rfl, rfl, rfl⟩) rfl (c4) ?_
  exact k5

set_option maxRecDepth 20000 in
set_option maxHeartbeats 2000000 in
theorem s_X2_init_30 {G : GG} {nc ns : Nat} {h : PH} {Z : Option Value → PH → Prop} {l0 : Nat} {l1 : Nat} {l2 : Nat}
    (c1 : hK h l0 = 12)
    (k2 : RR G nc ns m_X2_init 35 [some (.ref l0), some (.ref l1), some (.ref l2)] [] (sI h l0 4 0) Z) :
    RR G nc ns m_X2_init 30 [some (.ref l0), some (.ref l1), some (.ref l2)] [] h Z := by
  refine r_aload_n dX2_init_30 rfl ?_
  refine r_iconst (v := 0) dX2_init_31 (by decide) ?_
  refine r_putI (c := 2) (k := 4) dX2_init_32 rfl rfl (by decide) fl_RX2_26 (c1) (Or.inl rfl) (Or.inl rfl) ?_
  exact k2

set_option maxRecDepth 20000 in
set_option maxHeartbeats 2000000 in
theorem s_X2_init_35 {G : GG} {nc ns : Nat} {h : PH} {Z : Option Value → PH → Prop} {l0 : Nat} {l1 : Nat} {l2 : Nat}
    (c1 : hK h l0 = 12)
    (k2 : RR G nc ns m_X2_init 40 [some (.ref l0), some (.ref l1), some (.ref l2)] [] (sI h l0 5 (-1)) Z) :
    RR G nc ns m_X2_init 35 [some (.ref l0), some (.ref l1), some (.ref l2)] [] h Z := by
  refine r_aload_n dX2_init_35 rfl ?_
  refine r_iconst (v := (-1)) dX2_init_36 (by decide) ?_
  refine r_putI (c := 2) (k := 5) dX2_init_37 rfl rfl (by decide) fl_RX2_30 (c1) (Or.inl rfl) (Or.inl rfl) ?_
  exact k2

set_option maxRecDepth 20000 in
set_option maxHeartbeats 2000000 in
theorem s_X2_init_40 {G : GG} {nc ns : Nat} {h : PH} {Z : Option Value → PH → Prop} {l0 : Nat} {l1 : Nat} {l2 : Nat}
    (k1 : Z none h) :
    RR G nc ns m_X2_init 40 [some (.ref l0), some (.ref l1), some (.ref l2)] [] h Z := by
  exact r_return dX2_init_40 rfl (k1)

set_option maxRecDepth 20000 in
set_option maxHeartbeats 2000000 in
theorem s_X2_refresh_0 {G : GG} {nc ns : Nat} {h : PH} {Z : Option Value → PH → Prop} {l0 : Nat} {x1 : Int32} {x2 : Int32} {P3 : PH → Prop}
    (c1 : hK h l0 = 12)
    (c2 : (hR h l0 0) ≠ 0)
    (e3 : Ev G m_X1_changes [.ref (hR h l0 0)] h 0 0 (Ret (some (.int x1)) h))
    (c4 : hK h (hR h l0 0) = 11)
    (e5 : (¬ (hI h l0 5) = x1) → Ev G m_X1_changes [.ref (hR h l0 0)] h 0 0 (Ret (some (.int x2)) h))
    (e6 : (¬ (hI h l0 5) = x1) → Ev G m_X2_findLevels [.ref l0] (sI h l0 5 x2) 0 0 (RV P3))
    (k7 : (¬ (hI h l0 5) = x1) → ∀ (h3 : PH), P3 h3 → hN h3 = (hN h) → hS h3 = (hS h) → RR G nc ns m_X2_refresh 30 [some (.ref l0)] [] h3 Z)
    (k8 : ((hI h l0 5) = x1) → Z none h) :
    RR G nc ns m_X2_refresh 0 [some (.ref l0)] [] h Z := by
  refine r_aload_n dX2_refresh_0 rfl ?_
  refine r_get (c := 2) (k := 5) dX2_refresh_1 rfl rfl (by decide) fl_RX2_30 (c1) rfl ?_
  refine r_aload_n dX2_refresh_4 rfl ?_
  refine r_getR (c := 2) (k := 0) dX2_refresh_5 rfl rfl (by decide) fl_RX2_9 (c1) rfl (c2) ?_
  refine r_callV1 (c := 1) (mc := 0) (ms := 0) dX2_refresh_8 ck_X1_changes iv_X1_changes sl_X1_changes lk_RX2_33 rfl rfl (c4) (by decide) (by decide) (As := []) rfl rfl (Nat.le_of_ble_eq_true rfl) (Or.inl rfl) (Or.inl rfl) (e3) ?_
  refine r_icmp_ne 15 dX2_refresh_11 (by decide) (fun q1 => ?_) (fun q1 => ?_)
  · refine r_aload_n dX2_refresh_15 rfl ?_
    refine r_aload_n dX2_refresh_16 rfl ?_
    refine r_getR (c := 2) (k := 0) dX2_refresh_17 rfl rfl (by decide) fl_RX2_9 (c1) rfl (c2) ?_
    refine r_callV1 (c := 1) (mc := 0) (ms := 0) dX2_refresh_20 ck_X1_changes iv_X1_changes sl_X1_changes lk_RX2_33 rfl rfl (c4) (by decide) (by decide) (As := []) rfl rfl (Nat.le_of_ble_eq_true rfl) (Or.inl rfl) (Or.inl rfl) (e5 q1) ?_
    refine r_putI (c := 2) (k := 5) dX2_refresh_23 rfl rfl (by decide) fl_RX2_30 (c1) (Or.inl rfl) (Or.inl rfl) ?_
    refine r_aload_n dX2_refresh_26 rfl ?_
    refine r_callV (c := 2) (mc := 0) (ms := 0) dX2_refresh_27 ck_X2_findLevels iv_X2_findLevels sl_X2_findLevels lk_RX2_39 rfl rfl (c1) (by decide) (by decide) (As := []) rfl rfl (Nat.le_of_ble_eq_true rfl) (Or.inl rfl) (Or.inl rfl) (e6 q1) ?_
    rintro v3 h3 ⟨rfl, z3⟩ n3 t3
    exact k7 q1 h3 z3 n3 t3
  · exact r_return dX2_refresh_14 rfl (k8 q1)

set_option maxRecDepth 20000 in
set_option maxHeartbeats 2000000 in
theorem s_X2_refresh_30 {G : GG} {nc ns : Nat} {h : PH} {Z : Option Value → PH → Prop} {l0 : Nat} {P1 : PH → Prop}
    (e1 : Ev G m_X2_findChains [.ref l0] h 0 0 (RV P1))
    (c2 : hK h l0 = 12)
    (k3 : ∀ (h1 : PH), P1 h1 → hN h1 = (hN h) → hS h1 = (hS h) → RR G nc ns m_X2_refresh 34 [some (.ref l0)] [] h1 Z) :
    RR G nc ns m_X2_refresh 30 [some (.ref l0)] [] h Z := by
  refine r_aload_n dX2_refresh_30 rfl ?_
  refine r_callV (c := 2) (mc := 0) (ms := 0) dX2_refresh_31 ck_X2_findChains iv_X2_findChains sl_X2_findChains lk_RX2_42 rfl rfl (c2) (by decide) (by decide) (As := []) rfl rfl (Nat.le_of_ble_eq_true rfl) (Or.inl rfl) (Or.inl rfl) (e1) ?_
  rintro v1 h1 ⟨rfl, z1⟩ n1 t1
  exact k3 h1 z1 n1 t1

set_option maxRecDepth 20000 in
set_option maxHeartbeats 2000000 in
theorem s_X2_refresh_34 {G : GG} {nc ns : Nat} {h : PH} {Z : Option Value → PH → Prop} {l0 : Nat}
    (k1 : Z none h) :
    RR G nc ns m_X2_refresh 34 [some (.ref l0)] [] h Z := by
  exact r_return dX2_refresh_34 rfl (k1)

set_option maxRecDepth 20000 in
set_option maxHeartbeats 2000000 in
theorem s_X2_howManyLevels_0 {G : GG} {nc ns : Nat} {h : PH} {Z : Option Value → PH → Prop} {l0 : Nat}
    (c1 : hK h l0 = 12)
    (k2 : Z (some (.int (hI h l0 4))) h) :
    RR G nc ns m_X2_howManyLevels 0 [some (.ref l0)] [] h Z := by
  refine r_aload_n dX2_howManyLevels_0 rfl ?_
  refine r_get (c := 2) (k := 4) dX2_howManyLevels_1 rfl rfl (by decide) fl_RX2_26 (c1) rfl ?_
  exact r_ireturn dX2_howManyLevels_4 rfl (k2)

set_option maxRecDepth 20000 in
set_option maxHeartbeats 2000000 in
theorem s_X2_levelOf_0 {G : GG} {nc ns : Nat} {h : PH} {Z : Option Value → PH → Prop} {l0 : Nat} {l1 : Int32} {x1 : Int32}
    (c1 : hK h l0 = 12)
    (c2 : (hR h l0 0) ≠ 0)
    (e3 : Ev G m_X1_holds [.ref (hR h l0 0), .int 0, .int l1] h 0 0 (Ret (some (.int x1)) h))
    (c4 : hK h (hR h l0 0) = 11)
    (k5 : (x1 = 0) → Z (some (.int (-3))) h)
    (c6 : (hR h l0 2) ≠ 0)
    (c7 : hK h (hR h l0 2) = 2)
    (c8 : (¬ x1 = 0) → vp_in l1 (hL h (hR h l0 2)))
    (k9 : (¬ x1 = 0) → Z (some (.int (hI h (hR h l0 2) (Int32.toNatClampNeg l1)))) h) :
    RR G nc ns m_X2_levelOf 0 [some (.ref l0), some (.int l1)] [] h Z := by
  refine r_aload_n dX2_levelOf_0 rfl ?_
  refine r_getR (c := 2) (k := 0) dX2_levelOf_1 rfl rfl (by decide) fl_RX2_9 (c1) rfl (c2) ?_
  refine r_iconst (v := 0) dX2_levelOf_4 (by decide) ?_
  refine r_iload_n dX2_levelOf_5 rfl ?_
  refine r_callV1 (c := 1) (mc := 0) (ms := 0) dX2_levelOf_6 ck_X1_holds iv_X1_holds sl_X1_holds lk_RX2_45 rfl rfl (c4) (by decide) (by decide) (As := [.int 0, .int l1]) rfl rfl (Nat.le_of_ble_eq_true rfl) (Or.inl rfl) (Or.inl rfl) (e3) ?_
  refine r_if_eq 21 dX2_levelOf_9 (by decide) (fun q1 => ?_) (fun q1 => ?_)
  · refine r_bipush (v := (-3)) dX2_levelOf_21 (by decide) ?_
    exact r_ireturn dX2_levelOf_23 rfl (k5 q1)
  · refine r_aload_n dX2_levelOf_12 rfl ?_
    refine r_getR (c := 2) (k := 2) dX2_levelOf_13 rfl rfl (by decide) fl_RX2_19 (c1) rfl (c6) ?_
    refine r_iload_n dX2_levelOf_16 rfl ?_
    refine r_ialoadJ (Int32.toNatClampNeg l1) dX2_levelOf_17 (c7) (c8 q1) rfl ?_
    refine r_goto (tgt := 23) dX2_levelOf_18 (by decide) ?_
    exact r_ireturn dX2_levelOf_23 rfl (k9 q1)

set_option maxRecDepth 20000 in
set_option maxHeartbeats 2000000 in
theorem s_X2_chainOf_0 {G : GG} {nc ns : Nat} {h : PH} {Z : Option Value → PH → Prop} {l0 : Nat} {l1 : Int32} {x1 : Int32}
    (c1 : hK h l0 = 12)
    (c2 : (hR h l0 0) ≠ 0)
    (e3 : Ev G m_X1_holds [.ref (hR h l0 0), .int 0, .int l1] h 0 0 (Ret (some (.int x1)) h))
    (c4 : hK h (hR h l0 0) = 11)
    (k5 : (x1 = 0) → Z (some (.int (-3))) h)
    (c6 : (hR h l0 3) ≠ 0)
    (c7 : hK h (hR h l0 3) = 2)
    (c8 : (¬ x1 = 0) → vp_in l1 (hL h (hR h l0 3)))
    (k9 : (¬ x1 = 0) → Z (some (.int (hI h (hR h l0 3) (Int32.toNatClampNeg l1)))) h) :
    RR G nc ns m_X2_chainOf 0 [some (.ref l0), some (.int l1)] [] h Z := by
  refine r_aload_n dX2_chainOf_0 rfl ?_
  refine r_getR (c := 2) (k := 0) dX2_chainOf_1 rfl rfl (by decide) fl_RX2_9 (c1) rfl (c2) ?_
  refine r_iconst (v := 0) dX2_chainOf_4 (by decide) ?_
  refine r_iload_n dX2_chainOf_5 rfl ?_
  refine r_callV1 (c := 1) (mc := 0) (ms := 0) dX2_chainOf_6 ck_X1_holds iv_X1_holds sl_X1_holds lk_RX2_45 rfl rfl (c4) (by decide) (by decide) (As := [.int 0, .int l1]) rfl rfl (Nat.le_of_ble_eq_true rfl) (Or.inl rfl) (Or.inl rfl) (e3) ?_
  refine r_if_eq 21 dX2_chainOf_9 (by decide) (fun q1 => ?_) (fun q1 => ?_)
  · refine r_bipush (v := (-3)) dX2_chainOf_21 (by decide) ?_
    exact r_ireturn dX2_chainOf_23 rfl (k5 q1)
  · refine r_aload_n dX2_chainOf_12 rfl ?_
    refine r_getR (c := 2) (k := 3) dX2_chainOf_13 rfl rfl (by decide) fl_RX2_23 (c1) rfl (c6) ?_
    refine r_iload_n dX2_chainOf_16 rfl ?_
    refine r_ialoadJ (Int32.toNatClampNeg l1) dX2_chainOf_17 (c7) (c8 q1) rfl ?_
    refine r_goto (tgt := 23) dX2_chainOf_18 (by decide) ?_
    exact r_ireturn dX2_chainOf_23 rfl (k9 q1)

set_option maxRecDepth 20000 in
set_option maxHeartbeats 2000000 in
theorem s_X2_isInAntichain_0 {G : GG} {nc ns : Nat} {h : PH} {Z : Option Value → PH → Prop} {l0 : Nat} {l1 : Int32} {l2 : Int32} {x1 : Int32} {x2 : Int32}
    (c1 : hK h l0 = 12)
    (c2 : (hR h l0 1) ≠ 0)
    (e3 : Ev G m_X3_isInCover [.ref (hR h l0 1), .int (1 - l1), .int 0, .int l2] h 0 0 (Ret (some (.int x1)) h))
    (c4 : hK h (hR h l0 1) = 13)
    (k5 : (¬ x1 = 0) → Z (some (.int 0)) h)
    (e6 : (x1 = 0) → Ev G m_X3_isInCover [.ref (hR h l0 1), .int (1 - l1), .int 1, .int l2] h 0 0 (Ret (some (.int x2)) h))
    (k7 : (x1 = 0) → (¬ x2 = 0) → Z (some (.int 0)) h)
    (k8 : (x1 = 0) → (x2 = 0) → Z (some (.int 1)) h) :
    RR G nc ns m_X2_isInAntichain 0 [some (.ref l0), some (.int l1), some (.int l2), none] [] h Z := by
  refine r_iconst (v := 1) dX2_isInAntichain_0 (by decide) ?_
  refine r_iload_n dX2_isInAntichain_1 rfl ?_
  refine r_isub dX2_isInAntichain_2 ?_
  refine r_istore_nL [some (.ref l0), some (.int l1), some (.int l2), some (.int (1 - l1))] dX2_isInAntichain_3 (by decide) rfl ?_
  refine r_aload_n dX2_isInAntichain_4 rfl ?_
  refine r_getR (c := 2) (k := 1) dX2_isInAntichain_5 rfl rfl (by decide) fl_RX2_15 (c1) rfl (c2) ?_
  refine r_iload_n dX2_isInAntichain_8 rfl ?_
  refine r_iconst (v := 0) dX2_isInAntichain_9 (by decide) ?_
  refine r_iload_n dX2_isInAntichain_10 rfl ?_
  refine r_callV1 (c := 3) (mc := 0) (ms := 0) dX2_isInAntichain_11 ck_X3_isInCover iv_X3_isInCover sl_X3_isInCover lk_RX2_49 rfl rfl (c4) (by decide) (by decide) (As := [.int (1 - l1), .int 0, .int l2]) rfl rfl (Nat.le_of_ble_eq_true rfl) (Or.inl rfl) (Or.inl rfl) (e3) ?_
  refine r_if_ne 34 dX2_isInAntichain_14 (by decide) (fun q1 => ?_) (fun q1 => ?_)
  · refine r_iconst (v := 0) dX2_isInAntichain_34 (by decide) ?_
    exact r_zreturn dX2_isInAntichain_35 rfl (by decide) (k5 q1)
  · refine r_aload_n dX2_isInAntichain_17 rfl ?_
    refine r_getR (c := 2) (k := 1) dX2_isInAntichain_18 rfl rfl (by decide) fl_RX2_15 (c1) rfl (c2) ?_
    refine r_iload_n dX2_isInAntichain_21 rfl ?_
    refine r_iconst (v := 1) dX2_isInAntichain_22 (by decide) ?_
    refine r_iload_n dX2_isInAntichain_23 rfl ?_
    refine r_callV1 (c := 3) (mc := 0) (ms := 0) dX2_isInAntichain_24 ck_X3_isInCover iv_X3_isInCover sl_X3_isInCover lk_RX2_49 rfl rfl (c4) (by decide) (by decide) (As := [.int (1 - l1), .int 1, .int l2]) rfl rfl (Nat.le_of_ble_eq_true rfl) (Or.inl rfl) (Or.inl rfl) (e6 q1) ?_
    refine r_if_ne 34 dX2_isInAntichain_27 (by decide) (fun q2 => ?_) (fun q2 => ?_)
    · refine r_iconst (v := 0) dX2_isInAntichain_34 (by decide) ?_
      exact r_zreturn dX2_isInAntichain_35 rfl (by decide) (k7 q1 q2)
    · refine r_iconst (v := 1) dX2_isInAntichain_30 (by decide) ?_
      refine r_goto (tgt := 35) dX2_isInAntichain_31 (by decide) ?_
      exact r_zreturn dX2_isInAntichain_35 rfl (by decide) (k8 q1 q2)

set_option maxRecDepth 20000 in
set_option maxHeartbeats 2000000 in
theorem s_X2_findLevels_0 {G : GG} {nc ns : Nat} {h : PH} {Z : Option Value → PH → Prop} {l0 : Nat} {x1 : Int64}
    (c1 : hK h l0 = 12)
    (c2 : (hR h l0 0) ≠ 0)
    (e3 : Ev G m_X1_all [.ref (hR h l0 0), .int 0] h 0 0 (Ret (some (.long x1)) h))
    (c4 : hK h (hR h l0 0) = 11)
    (k5 : RR G nc ns m_X2_findLevels 16 [some (.ref l0), some (.long x1), none, some (.int 0), none, none, none] [] (sI h l0 4 0) Z) :
    RR G nc ns m_X2_findLevels 0 [some (.ref l0), none, none, none, none, none, none] [] h Z := by
  refine r_aload_n dX2_findLevels_0 rfl ?_
  refine r_getR (c := 2) (k := 0) dX2_findLevels_1 rfl rfl (by decide) fl_RX2_9 (c1) rfl (c2) ?_
  refine r_iconst (v := 0) dX2_findLevels_4 (by decide) ?_
  refine r_callV1 (c := 1) (mc := 0) (ms := 0) dX2_findLevels_5 ck_X1_all iv_X1_all sl_X1_all lk_RX2_55 rfl rfl (c4) (by decide) (by decide) (As := [.int 0]) rfl rfl (Nat.le_of_ble_eq_true rfl) (Or.inl rfl) (Or.inl rfl) (e3) ?_
  refine r_lstore_nL [some (.ref l0), some (.long x1), none, none, none, none, none] dX2_findLevels_8 (by decide) rfl ?_
  refine r_aload_n dX2_findLevels_9 rfl ?_
  refine r_iconst (v := 0) dX2_findLevels_10 (by decide) ?_
  refine r_putI (c := 2) (k := 4) dX2_findLevels_11 rfl rfl (by decide) fl_RX2_26 (c1) (Or.inl rfl) (Or.inl rfl) ?_
  refine r_iconst (v := 0) dX2_findLevels_14 (by decide) ?_
  refine r_istore_nL [some (.ref l0), some (.long x1), none, some (.int 0), none, none, none] dX2_findLevels_15 (by decide) rfl ?_
  exact k5

set_option maxRecDepth 20000 in
set_option maxHeartbeats 2000000 in
theorem s_X2_findLevels_16 {G : GG} {nc ns : Nat} {h : PH} {Z : Option Value → PH → Prop} {l0 : Nat} {l1 : Int64} {l3 : Int32} {x1 : Int64}
    (k1 : (40 ≤ l3) → Z none h)
    (k2 : (¬ 40 ≤ l3) → ((lg_cmp l1 0) = 0) → Z none h)
    (e3 : (¬ 40 ≤ l3) → (¬ (lg_cmp l1 0) = 0) → Ev G m_X2_bottomOf [.ref l0, .long l1] h 0 0 (Ret (some (.long x1)) h))
    (c4 : hK h l0 = 12)
    (k5 : (¬ 40 ≤ l3) → (¬ (lg_cmp l1 0) = 0) → RR G nc ns m_X2_findLevels 38 [some (.ref l0), some (.long l1), none, some (.int l3), some (.long x1), none, some (.int 0)] [] h Z) :
    RR G nc ns m_X2_findLevels 16 [some (.ref l0), some (.long l1), none, some (.int l3), none, none, none] [] h Z := by
  refine r_iload_n dX2_findLevels_16 rfl ?_
  refine r_bipush (v := 40) dX2_findLevels_17 (by decide) ?_
  refine r_icmp_ge 100 dX2_findLevels_19 (by decide) (fun q1 => ?_) (fun q1 => ?_)
  · exact r_return dX2_findLevels_100 rfl (k1 q1)
  · refine r_lload_n dX2_findLevels_22 rfl ?_
    refine r_lconst (v := 0) dX2_findLevels_23 (by decide) ?_
    refine r_lcmp dX2_findLevels_24 ?_
    refine r_if_eq 100 dX2_findLevels_25 (by decide) (fun q2 => ?_) (fun q2 => ?_)
    · exact r_return dX2_findLevels_100 rfl (k2 q1 q2)
    · refine r_aload_n dX2_findLevels_28 rfl ?_
      refine r_lload_n dX2_findLevels_29 rfl ?_
      refine r_callV1 (c := 2) (mc := 0) (ms := 0) dX2_findLevels_30 ck_X2_bottomOf iv_X2_bottomOf sl_X2_bottomOf lk_RX2_59 rfl rfl (c4) (by decide) (by decide) (As := [.long l1]) rfl rfl (Nat.le_of_ble_eq_true rfl) (Or.inl rfl) (Or.inl rfl) (e3 q1 q2) ?_
      refine r_lstoreL [some (.ref l0), some (.long l1), none, some (.int l3), some (.long x1), none, none] dX2_findLevels_33 (by decide) rfl ?_
      refine r_iconst (v := 0) dX2_findLevels_35 (by decide) ?_
      refine r_istoreL [some (.ref l0), some (.long l1), none, some (.int l3), some (.long x1), none, some (.int 0)] dX2_findLevels_36 (by decide) rfl ?_
      exact k5 q1 q2

set_option maxRecDepth 20000 in
set_option maxHeartbeats 2000000 in
theorem s_X2_findLevels_38 {G : GG} {nc ns : Nat} {h : PH} {Z : Option Value → PH → Prop} {l0 : Nat} {l1 : Int64} {l3 : Int32} {l4 : Int64} {l6 : Int32} {x1 : Int32} {x2 : Int32}
    (c1 : hK h l0 = 12)
    (c2 : (hR h l0 0) ≠ 0)
    (e3 : Ev G m_X1_sizeOf [.ref (hR h l0 0), .int 0] h 0 0 (Ret (some (.int x1)) h))
    (c4 : hK h (hR h l0 0) = 11)
    (k5 : (x1 ≤ l6) → RR G nc ns m_X2_findLevels 16 [some (.ref l0), some (.long (l1 &&& (l4 ^^^ (-1)))), none, some (.int (l3 + 1)), none, none, none] [] (sI h l0 4 ((hI h l0 4) + 1)) Z)
    (e6 : (¬ x1 ≤ l6) → Ev G m_X5_contains [.long l4, .int l6] h 0 0 (Ret (some (.int x2)) h))
    (k7 : (¬ x1 ≤ l6) → (x2 = 0) → RR G nc ns m_X2_findLevels 38 [some (.ref l0), some (.long l1), none, some (.int l3), some (.long l4), none, some (.int (l6 + 1))] [] h Z)
    (c8 : (hR h l0 2) ≠ 0)
    (c9 : hK h (hR h l0 2) = 2)
    (c10 : (¬ x1 ≤ l6) → (¬ x2 = 0) → vp_in l6 (hL h (hR h l0 2)))
    (k11 : (¬ x1 ≤ l6) → (¬ x2 = 0) → RR G nc ns m_X2_findLevels 38 [some (.ref l0), some (.long l1), none, some (.int l3), some (.long l4), none, some (.int (l6 + 1))] [] (sI h (hR h l0 2) (Int32.toNatClampNeg l6) l3) Z) :
    RR G nc ns m_X2_findLevels 38 [some (.ref l0), some (.long l1), none, some (.int l3), some (.long l4), none, some (.int l6)] [] h Z := by
  refine r_iload dX2_findLevels_38 rfl ?_
  refine r_aload_n dX2_findLevels_40 rfl ?_
  refine r_getR (c := 2) (k := 0) dX2_findLevels_41 rfl rfl (by decide) fl_RX2_9 (c1) rfl (c2) ?_
  refine r_iconst (v := 0) dX2_findLevels_44 (by decide) ?_
  refine r_callV1 (c := 1) (mc := 0) (ms := 0) dX2_findLevels_45 ck_X1_sizeOf iv_X1_sizeOf sl_X1_sizeOf lk_RX2_63 rfl rfl (c4) (by decide) (by decide) (As := [.int 0]) rfl rfl (Nat.le_of_ble_eq_true rfl) (Or.inl rfl) (Or.inl rfl) (e3) ?_
  refine r_icmp_ge 75 dX2_findLevels_48 (by decide) (fun q1 => ?_) (fun q1 => ?_)
  · refine r_lload_n dX2_findLevels_75 rfl ?_
    refine r_lload dX2_findLevels_76 rfl ?_
    refine r_ldc2 (v := (-1)) dX2_findLevels_78 cn_RX2_71 ?_
    refine r_lxor dX2_findLevels_81 ?_
    refine r_land dX2_findLevels_82 ?_
    refine r_lstore_nL [some (.ref l0), some (.long (l1 &&& (l4 ^^^ (-1)))), none, some (.int l3), some (.long l4), none, some (.int l6)] dX2_findLevels_83 (by decide) rfl ?_
    refine r_aload_n dX2_findLevels_84 rfl ?_
    refine r_dup dX2_findLevels_85 rfl ?_
    refine r_get (c := 2) (k := 4) dX2_findLevels_86 rfl rfl (by decide) fl_RX2_26 (c1) rfl ?_
    refine r_iconst (v := 1) dX2_findLevels_89 (by decide) ?_
    refine r_iadd dX2_findLevels_90 ?_
    refine r_putI (c := 2) (k := 4) dX2_findLevels_91 rfl rfl (by decide) fl_RX2_26 (c1) (Or.inl rfl) (Or.inl rfl) ?_
    refine r_iincL (v := l3 + 1) [some (.ref l0), some (.long (l1 &&& (l4 ^^^ (-1)))), none, some (.int (l3 + 1)), some (.long l4), none, some (.int l6)] dX2_findLevels_94 rfl (by decide) rfl rfl ?_
    refine r_goto (tgt := 16) dX2_findLevels_97 (by decide) ?_
    exact RR.sub (k5 q1) (And.intro rfl (And.intro rfl (And.intro rfl (trivial))))
  · refine r_lload dX2_findLevels_51 rfl ?_
    refine r_iload dX2_findLevels_53 rfl ?_
    refine r_callSN1 (mc := 0) (ms := 0) dX2_findLevels_55 ck_X5_contains sv_X5_contains lk_RX2_67 (by decide) (by decide) (As := [.long l4, .int l6]) rfl rfl (Nat.le_of_ble_eq_true rfl) (Or.inl rfl) (Or.inl rfl) (e6 q1) ?_
    refine r_if_eq 69 dX2_findLevels_58 (by decide) (fun q2 => ?_) (fun q2 => ?_)
    · refine r_iincL (v := l6 + 1) [some (.ref l0), some (.long l1), none, some (.int l3), some (.long l4), none, some (.int (l6 + 1))] dX2_findLevels_69 rfl (by decide) rfl rfl ?_
      refine r_goto (tgt := 38) dX2_findLevels_72 (by decide) ?_
      exact k7 q1 q2
    · refine r_aload_n dX2_findLevels_61 rfl ?_
      refine r_getR (c := 2) (k := 2) dX2_findLevels_62 rfl rfl (by decide) fl_RX2_19 (c1) rfl (c8) ?_
      refine r_iload dX2_findLevels_65 rfl ?_
      refine r_iload_n dX2_findLevels_67 rfl ?_
      refine r_iastoreJ (Int32.toNatClampNeg l6) dX2_findLevels_68 (c9) (c10 q1 q2) rfl ?_
      refine r_iincL (v := l6 + 1) [some (.ref l0), some (.long l1), none, some (.int l3), some (.long l4), none, some (.int (l6 + 1))] dX2_findLevels_69 rfl (by decide) rfl rfl ?_
      refine r_goto (tgt := 38) dX2_findLevels_72 (by decide) ?_
      exact k11 q1 q2

set_option maxRecDepth 20000 in
set_option maxHeartbeats 2000000 in
theorem s_X2_bottomOf_0 {G : GG} {nc ns : Nat} {h : PH} {Z : Option Value → PH → Prop} {l0 : Nat} {l1 : Int64}
    (k1 : RR G nc ns m_X2_bottomOf 5 [some (.ref l0), some (.long l1), none, some (.long 0), none, some (.int 0)] [] h Z) :
    RR G nc ns m_X2_bottomOf 0 [some (.ref l0), some (.long l1), none, none, none, none] [] h Z := by
  refine r_lconst (v := 0) dX2_bottomOf_0 (by decide) ?_
  refine r_lstore_nL [some (.ref l0), some (.long l1), none, some (.long 0), none, none] dX2_bottomOf_1 (by decide) rfl ?_
  refine r_iconst (v := 0) dX2_bottomOf_2 (by decide) ?_
  refine r_istoreL [some (.ref l0), some (.long l1), none, some (.long 0), none, some (.int 0)] dX2_bottomOf_3 (by decide) rfl ?_
  exact k1

set_option maxRecDepth 20000 in
set_option maxHeartbeats 2000000 in
theorem s_X2_bottomOf_5 {G : GG} {nc ns : Nat} {h : PH} {Z : Option Value → PH → Prop} {l0 : Nat} {l1 : Int64} {l3 : Int64} {l5 : Int32} {x1 : Int32} {x2 : Int32} {x3 : Int64}
    (c1 : hK h l0 = 12)
    (c2 : (hR h l0 0) ≠ 0)
    (e3 : Ev G m_X1_sizeOf [.ref (hR h l0 0), .int 0] h 0 0 (Ret (some (.int x1)) h))
    (c4 : hK h (hR h l0 0) = 11)
    (k5 : (x1 ≤ l5) → Z (some (.long l3)) h)
    (e6 : (¬ x1 ≤ l5) → Ev G m_X5_contains [.long l1, .int l5] h 0 0 (Ret (some (.int x2)) h))
    (k7 : (¬ x1 ≤ l5) → (x2 = 0) → RR G nc ns m_X2_bottomOf 5 [some (.ref l0), some (.long l1), none, some (.long l3), none, some (.int (l5 + 1))] [] h Z)
    (e8 : (¬ x1 ≤ l5) → (¬ x2 = 0) → Ev G m_X1_across [.ref (hR h l0 0), .int 1, .int l5] h 0 0 (Ret (some (.long x3)) h))
    (k9 : (¬ x1 ≤ l5) → (¬ x2 = 0) → (¬ (lg_cmp (x3 &&& l1) 0) = 0) → RR G nc ns m_X2_bottomOf 5 [some (.ref l0), some (.long l1), none, some (.long l3), none, some (.int (l5 + 1))] [] h Z)
    (k10 : (¬ x1 ≤ l5) → (¬ x2 = 0) → ((lg_cmp (x3 &&& l1) 0) = 0) → RR G nc ns m_X2_bottomOf 5 [some (.ref l0), some (.long l1), none, some (.long (l3 ||| (1 <<< (Int32.toInt64 l5 &&& 63)))), none, some (.int (l5 + 1))] [] h Z) :
    RR G nc ns m_X2_bottomOf 5 [some (.ref l0), some (.long l1), none, some (.long l3), none, some (.int l5)] [] h Z := by
  refine r_iload dX2_bottomOf_5 rfl ?_
  refine r_aload_n dX2_bottomOf_7 rfl ?_
  refine r_getR (c := 2) (k := 0) dX2_bottomOf_8 rfl rfl (by decide) fl_RX2_9 (c1) rfl (c2) ?_
  refine r_iconst (v := 0) dX2_bottomOf_11 (by decide) ?_
  refine r_callV1 (c := 1) (mc := 0) (ms := 0) dX2_bottomOf_12 ck_X1_sizeOf iv_X1_sizeOf sl_X1_sizeOf lk_RX2_63 rfl rfl (c4) (by decide) (by decide) (As := [.int 0]) rfl rfl (Nat.le_of_ble_eq_true rfl) (Or.inl rfl) (Or.inl rfl) (e3) ?_
  refine r_icmp_ge 57 dX2_bottomOf_15 (by decide) (fun q1 => ?_) (fun q1 => ?_)
  · refine r_lload_n dX2_bottomOf_57 rfl ?_
    exact r_lreturn dX2_bottomOf_58 rfl (k5 q1)
  · refine r_lload_n dX2_bottomOf_18 rfl ?_
    refine r_iload dX2_bottomOf_19 rfl ?_
    refine r_callSN1 (mc := 0) (ms := 0) dX2_bottomOf_21 ck_X5_contains sv_X5_contains lk_RX2_67 (by decide) (by decide) (As := [.long l1, .int l5]) rfl rfl (Nat.le_of_ble_eq_true rfl) (Or.inl rfl) (Or.inl rfl) (e6 q1) ?_
    refine r_if_eq 51 dX2_bottomOf_24 (by decide) (fun q2 => ?_) (fun q2 => ?_)
    · refine r_iincL (v := l5 + 1) [some (.ref l0), some (.long l1), none, some (.long l3), none, some (.int (l5 + 1))] dX2_bottomOf_51 rfl (by decide) rfl rfl ?_
      refine r_goto (tgt := 5) dX2_bottomOf_54 (by decide) ?_
      exact k7 q1 q2
    · refine r_aload_n dX2_bottomOf_27 rfl ?_
      refine r_getR (c := 2) (k := 0) dX2_bottomOf_28 rfl rfl (by decide) fl_RX2_9 (c1) rfl (c2) ?_
      refine r_iconst (v := 1) dX2_bottomOf_31 (by decide) ?_
      refine r_iload dX2_bottomOf_32 rfl ?_
      refine r_callV1 (c := 1) (mc := 0) (ms := 0) dX2_bottomOf_34 ck_X1_across iv_X1_across sl_X1_across lk_RX2_73 rfl rfl (c4) (by decide) (by decide) (As := [.int 1, .int l5]) rfl rfl (Nat.le_of_ble_eq_true rfl) (Or.inl rfl) (Or.inl rfl) (e8 q1 q2) ?_
      refine r_lload_n dX2_bottomOf_37 rfl ?_
      refine r_land dX2_bottomOf_38 ?_
      refine r_lconst (v := 0) dX2_bottomOf_39 (by decide) ?_
      refine r_lcmp dX2_bottomOf_40 ?_
      refine r_if_ne 51 dX2_bottomOf_41 (by decide) (fun q3 => ?_) (fun q3 => ?_)
      · refine r_iincL (v := l5 + 1) [some (.ref l0), some (.long l1), none, some (.long l3), none, some (.int (l5 + 1))] dX2_bottomOf_51 rfl (by decide) rfl rfl ?_
        refine r_goto (tgt := 5) dX2_bottomOf_54 (by decide) ?_
        exact k9 q1 q2 q3
      · refine r_lload_n dX2_bottomOf_44 rfl ?_
        refine r_lconst (v := 1) dX2_bottomOf_45 (by decide) ?_
        refine r_iload dX2_bottomOf_46 rfl ?_
        refine r_lshl dX2_bottomOf_48 ?_
        refine r_lor dX2_bottomOf_49 ?_
        refine r_lstore_nL [some (.ref l0), some (.long l1), none, some (.long (l3 ||| (1 <<< (Int32.toInt64 l5 &&& 63)))), none, some (.int l5)] dX2_bottomOf_50 (by decide) rfl ?_
        refine r_iincL (v := l5 + 1) [some (.ref l0), some (.long l1), none, some (.long (l3 ||| (1 <<< (Int32.toInt64 l5 &&& 63)))), none, some (.int (l5 + 1))] dX2_bottomOf_51 rfl (by decide) rfl rfl ?_
        refine r_goto (tgt := 5) dX2_bottomOf_54 (by decide) ?_
        exact k10 q1 q2 q3

set_option maxRecDepth 20000 in
set_option maxHeartbeats 2000000 in
theorem s_X2_findChains_0 {G : GG} {nc ns : Nat} {h : PH} {Z : Option Value → PH → Prop} {l0 : Nat}
    (k1 : RR G nc ns m_X2_findChains 4 [some (.ref l0), some (.int 0), some (.int 0)] [] h Z) :
    RR G nc ns m_X2_findChains 0 [some (.ref l0), none, none] [] h Z := by
  refine r_iconst (v := 0) dX2_findChains_0 (by decide) ?_
  refine r_istore_nL [some (.ref l0), some (.int 0), none] dX2_findChains_1 (by decide) rfl ?_
  refine r_iconst (v := 0) dX2_findChains_2 (by decide) ?_
  refine r_istore_nL [some (.ref l0), some (.int 0), some (.int 0)] dX2_findChains_3 (by decide) rfl ?_
  exact k1

set_option maxRecDepth 20000 in
set_option maxHeartbeats 2000000 in
theorem s_X2_findChains_4 {G : GG} {nc ns : Nat} {h : PH} {Z : Option Value → PH → Prop} {l0 : Nat} {l1 : Int32} {l2 : Int32} {x1 : Int32} {x2 : Int32} {P3 : PH → Prop}
    (c1 : hK h l0 = 12)
    (c2 : (hR h l0 0) ≠ 0)
    (e3 : Ev G m_X1_sizeOf [.ref (hR h l0 0), .int 0] h 0 0 (Ret (some (.int x1)) h))
    (c4 : hK h (hR h l0 0) = 11)
    (k5 : (x1 ≤ l2) → Z none h)
    (c6 : (hR h l0 1) ≠ 0)
    (e7 : (¬ x1 ≤ l2) → Ev G m_X3_mateOf [.ref (hR h l0 1), .int 1, .int l2] h 0 0 (Ret (some (.int x2)) h))
    (c8 : hK h (hR h l0 1) = 13)
    (k9 : (¬ x1 ≤ l2) → (¬ x2 = (-3)) → RR G nc ns m_X2_findChains 4 [some (.ref l0), some (.int l1), some (.int (l2 + 1))] [] h Z)
    (e10 : (¬ x1 ≤ l2) → (x2 = (-3)) → Ev G m_X2_numberChain [.ref l0, .int l2, .int l1] h 0 0 (RV P3))
    (k11 : (¬ x1 ≤ l2) → (x2 = (-3)) → ∀ (h3 : PH), P3 h3 → hN h3 = (hN h) → hS h3 = (hS h) → RR G nc ns m_X2_findChains 36 [some (.ref l0), some (.int l1), some (.int l2)] [] h3 Z) :
    RR G nc ns m_X2_findChains 4 [some (.ref l0), some (.int l1), some (.int l2)] [] h Z := by
  refine r_iload_n dX2_findChains_4 rfl ?_
  refine r_aload_n dX2_findChains_5 rfl ?_
  refine r_getR (c := 2) (k := 0) dX2_findChains_6 rfl rfl (by decide) fl_RX2_9 (c1) rfl (c2) ?_
  refine r_iconst (v := 0) dX2_findChains_9 (by decide) ?_
  refine r_callV1 (c := 1) (mc := 0) (ms := 0) dX2_findChains_10 ck_X1_sizeOf iv_X1_sizeOf sl_X1_sizeOf lk_RX2_63 rfl rfl (c4) (by decide) (by decide) (As := [.int 0]) rfl rfl (Nat.le_of_ble_eq_true rfl) (Or.inl rfl) (Or.inl rfl) (e3) ?_
  refine r_icmp_ge 45 dX2_findChains_13 (by decide) (fun q1 => ?_) (fun q1 => ?_)
  · exact r_return dX2_findChains_45 rfl (k5 q1)
  · refine r_aload_n dX2_findChains_16 rfl ?_
    refine r_getR (c := 2) (k := 1) dX2_findChains_17 rfl rfl (by decide) fl_RX2_15 (c1) rfl (c6) ?_
    refine r_iconst (v := 1) dX2_findChains_20 (by decide) ?_
    refine r_iload_n dX2_findChains_21 rfl ?_
    refine r_callV1 (c := 3) (mc := 0) (ms := 0) dX2_findChains_22 ck_X3_mateOf iv_X3_mateOf sl_X3_mateOf lk_RX2_77 rfl rfl (c8) (by decide) (by decide) (As := [.int 1, .int l2]) rfl rfl (Nat.le_of_ble_eq_true rfl) (Or.inl rfl) (Or.inl rfl) (e7 q1) ?_
    refine r_bipush (v := (-3)) dX2_findChains_25 (by decide) ?_
    refine r_icmp_ne 39 dX2_findChains_27 (by decide) (fun q2 => ?_) (fun q2 => ?_)
    · refine r_iincL (v := l2 + 1) [some (.ref l0), some (.int l1), some (.int (l2 + 1))] dX2_findChains_39 rfl (by decide) rfl rfl ?_
      refine r_goto (tgt := 4) dX2_findChains_42 (by decide) ?_
      exact k9 q1 q2
    · refine r_aload_n dX2_findChains_30 rfl ?_
      refine r_iload_n dX2_findChains_31 rfl ?_
      refine r_iload_n dX2_findChains_32 rfl ?_
      refine r_callV (c := 2) (mc := 0) (ms := 0) dX2_findChains_33 ck_X2_numberChain iv_X2_numberChain sl_X2_numberChain lk_RX2_81 rfl rfl (c1) (by decide) (by decide) (As := [.int l2, .int l1]) rfl rfl (Nat.le_of_ble_eq_true rfl) (Or.inl rfl) (Or.inl rfl) (e10 q1 q2) ?_
      rintro v3 h3 ⟨rfl, z3⟩ n3 t3
      exact k11 q1 q2 h3 z3 n3 t3

set_option maxRecDepth 20000 in
set_option maxHeartbeats 2000000 in
theorem s_X2_findChains_36 {G : GG} {nc ns : Nat} {h : PH} {Z : Option Value → PH → Prop} {l0 : Nat} {l1 : Int32} {l2 : Int32}
    (k1 : RR G nc ns m_X2_findChains 4 [some (.ref l0), some (.int (l1 + 1)), some (.int (l2 + 1))] [] h Z) :
    RR G nc ns m_X2_findChains 36 [some (.ref l0), some (.int l1), some (.int l2)] [] h Z := by
  refine r_iincL (v := l1 + 1) [some (.ref l0), some (.int (l1 + 1)), some (.int l2)] dX2_findChains_36 rfl (by decide) rfl rfl ?_
  refine r_iincL (v := l2 + 1) [some (.ref l0), some (.int (l1 + 1)), some (.int (l2 + 1))] dX2_findChains_39 rfl (by decide) rfl rfl ?_
  refine r_goto (tgt := 4) dX2_findChains_42 (by decide) ?_
  exact k1

set_option maxRecDepth 20000 in
set_option maxHeartbeats 2000000 in
theorem s_X2_numberChain_0 {G : GG} {nc ns : Nat} {h : PH} {Z : Option Value → PH → Prop} {l0 : Nat} {l1 : Int32} {l2 : Int32}
    (k1 : RR G nc ns m_X2_numberChain 5 [some (.ref l0), some (.int l1), some (.int l2), some (.int l1), some (.int 0)] [] h Z) :
    RR G nc ns m_X2_numberChain 0 [some (.ref l0), some (.int l1), some (.int l2), none, none] [] h Z := by
  refine r_iload_n dX2_numberChain_0 rfl ?_
  refine r_istore_nL [some (.ref l0), some (.int l1), some (.int l2), some (.int l1), none] dX2_numberChain_1 (by decide) rfl ?_
  refine r_iconst (v := 0) dX2_numberChain_2 (by decide) ?_
  refine r_istoreL [some (.ref l0), some (.int l1), some (.int l2), some (.int l1), some (.int 0)] dX2_numberChain_3 (by decide) rfl ?_
  exact k1

set_option maxRecDepth 20000 in
set_option maxHeartbeats 2000000 in
theorem s_X2_numberChain_5 {G : GG} {nc ns : Nat} {h : PH} {Z : Option Value → PH → Prop} {l0 : Nat} {l1 : Int32} {l2 : Int32} {l3 : Int32} {l4 : Int32} {x1 : Int32} {x2 : Int32}
    (k1 : (40 ≤ l4) → Z none h)
    (c2 : hK h l0 = 12)
    (c3 : (hR h l0 0) ≠ 0)
    (e4 : (¬ 40 ≤ l4) → Ev G m_X1_holds [.ref (hR h l0 0), .int 0, .int l3] h 0 0 (Ret (some (.int x1)) h))
    (c5 : hK h (hR h l0 0) = 11)
    (k6 : (¬ 40 ≤ l4) → (x1 = 0) → Z none h)
    (c7 : (hR h l0 3) ≠ 0)
    (c8 : hK h (hR h l0 3) = 2)
    (c9 : (¬ 40 ≤ l4) → (¬ x1 = 0) → vp_in l3 (hL h (hR h l0 3)))
    (c10 : (hR h l0 1) ≠ 0)
    (e11 : (¬ 40 ≤ l4) → (¬ x1 = 0) → Ev G m_X3_mateOf [.ref (hR h l0 1), .int 0, .int l3] (sI h (hR h l0 3) (Int32.toNatClampNeg l3) l2) 0 0 (Ret (some (.int x2)) (sI h (hR h l0 3) (Int32.toNatClampNeg l3) l2)))
    (c12 : hK h (hR h l0 1) = 13)
    (k13 : (¬ 40 ≤ l4) → (¬ x1 = 0) → RR G nc ns m_X2_numberChain 5 [some (.ref l0), some (.int l1), some (.int l2), some (.int x2), some (.int (l4 + 1))] [] (sI h (hR h l0 3) (Int32.toNatClampNeg l3) l2) Z) :
    RR G nc ns m_X2_numberChain 5 [some (.ref l0), some (.int l1), some (.int l2), some (.int l3), some (.int l4)] [] h Z := by
  refine r_iload dX2_numberChain_5 rfl ?_
  refine r_bipush (v := 40) dX2_numberChain_7 (by decide) ?_
  refine r_icmp_ge 47 dX2_numberChain_9 (by decide) (fun q1 => ?_) (fun q1 => ?_)
  · exact r_return dX2_numberChain_47 rfl (k1 q1)
  · refine r_aload_n dX2_numberChain_12 rfl ?_
    refine r_getR (c := 2) (k := 0) dX2_numberChain_13 rfl rfl (by decide) fl_RX2_9 (c2) rfl (c3) ?_
    refine r_iconst (v := 0) dX2_numberChain_16 (by decide) ?_
    refine r_iload_n dX2_numberChain_17 rfl ?_
    refine r_callV1 (c := 1) (mc := 0) (ms := 0) dX2_numberChain_18 ck_X1_holds iv_X1_holds sl_X1_holds lk_RX2_45 rfl rfl (c5) (by decide) (by decide) (As := [.int 0, .int l3]) rfl rfl (Nat.le_of_ble_eq_true rfl) (Or.inl rfl) (Or.inl rfl) (e4 q1) ?_
    refine r_if_eq 47 dX2_numberChain_21 (by decide) (fun q2 => ?_) (fun q2 => ?_)
    · exact r_return dX2_numberChain_47 rfl (k6 q1 q2)
    · refine r_aload_n dX2_numberChain_24 rfl ?_
      refine r_getR (c := 2) (k := 3) dX2_numberChain_25 rfl rfl (by decide) fl_RX2_23 (c2) rfl (c7) ?_
      refine r_iload_n dX2_numberChain_28 rfl ?_
      refine r_iload_n dX2_numberChain_29 rfl ?_
      refine r_iastoreJ (Int32.toNatClampNeg l3) dX2_numberChain_30 (c8) (c9 q1 q2) rfl ?_
      refine r_aload_n dX2_numberChain_31 rfl ?_
      refine r_getR (c := 2) (k := 1) dX2_numberChain_32 rfl rfl (by decide) fl_RX2_15 (c2) rfl (c10) ?_
      refine r_iconst (v := 0) dX2_numberChain_35 (by decide) ?_
      refine r_iload_n dX2_numberChain_36 rfl ?_
      refine r_callV1 (c := 3) (mc := 0) (ms := 0) dX2_numberChain_37 ck_X3_mateOf iv_X3_mateOf sl_X3_mateOf lk_RX2_77 rfl rfl (c12) (by decide) (by decide) (As := [.int 0, .int l3]) rfl rfl (Nat.le_of_ble_eq_true rfl) (Or.inl rfl) (Or.inl rfl) (e11 q1 q2) ?_
      refine r_istore_nL [some (.ref l0), some (.int l1), some (.int l2), some (.int x2), some (.int l4)] dX2_numberChain_40 (by decide) rfl ?_
      refine r_iincL (v := l4 + 1) [some (.ref l0), some (.int l1), some (.int l2), some (.int x2), some (.int (l4 + 1))] dX2_numberChain_41 rfl (by decide) rfl rfl ?_
      refine r_goto (tgt := 5) dX2_numberChain_44 (by decide) ?_
      exact k13 q1 q2
