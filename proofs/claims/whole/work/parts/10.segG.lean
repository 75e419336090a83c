set_option maxRecDepth 20000 in
set_option maxHeartbeats 2000000 in
theorem s_X1_init_0 {G : GG} {nc ns : Nat} {h : PH} {Z : Option Value → PH → Prop} {l0 : Nat} {l1 : Int32}
    (c1 : hK h l0 = 11)
    (k2 : RR G nc ns m_X1_init 9 [some (.ref l0), some (.int l1)] [] (sI h l0 0 l1) Z) :
    RR G nc ns m_X1_init 0 [some (.ref l0), some (.int l1)] [] h Z := by
  refine r_aload_n dX1_init_0 rfl ?_
  refine r_objInit dX1_init_1 lk_RX1_3 iv_obj cd_obj (by decide) (by decide) (Nat.le_of_ble_eq_true rfl) ?_
  refine r_aload_n dX1_init_4 rfl ?_
  refine r_iload_n dX1_init_5 rfl ?_
  refine r_putI (c := 1) (k := 0) dX1_init_6 rfl rfl (by decide) fl_RX1_9 (c1) (Or.inr ⟨rfl, rfl, rfl⟩) (Or.inl rfl) ?_
  exact k2

set_option maxRecDepth 20000 in
set_option maxHeartbeats 2000000 in
theorem s_X1_init_9 {G : GG} {nc ns : Nat} {h : PH} {Z : Option Value → PH → Prop} {l0 : Nat} {l1 : Int32}
    (c1 : (hN h) + 1 ≤ nc)
    (c2 : (hS h) + 2 ≤ ns)
    (c3 : hK (nA h 2 2) l0 = 11)
    (c4 : (hN h) ≠ 0)
    (k5 : RR G nc ns m_X1_init 16 [some (.ref l0), some (.int l1)] [] (sR (nA h 2 2) l0 1 (hN h)) Z) :
    RR G nc ns m_X1_init 9 [some (.ref l0), some (.int l1)] [] h Z := by
  refine r_aload_n dX1_init_9 rfl ?_
  refine r_iconst (v := 2) dX1_init_10 (by decide) ?_
  refine r_newarray (kd := 2) (N := 2) dX1_init_11 rfl rfl rfl ac_int (by decide) (by decide) (by decide) (c1) (c2) ?_
  refine r_putR (c := 1) (k := 1) dX1_init_13 rfl rfl (by decide) fl_RX1_15 (c3) (Or.inr ⟨rfl, rfl, rfl⟩) rfl (c4) ?_
  exact k5

set_option maxRecDepth 20000 in
set_option maxHeartbeats 2000000 in
theorem s_X1_init_16 {G : GG} {nc ns : Nat} {h : PH} {Z : Option Value → PH → Prop} {l0 : Nat} {l1 : Int32} {n1 : Nat}
    (c1 : ¬ l1 < 0)
    (c2 : Int32.toNatClampNeg l1 = n1)
    (c3 : n1 ≤ 1000)
    (c4 : (hN h) + (1 + 2) ≤ nc)
    (c5 : (hS h) + (2 + 2 * n1) ≤ ns)
    (c6 : hK (nM h 6 3 2 n1) l0 = 11)
    (c7 : (hN h) ≠ 0)
    (k8 : RR G nc ns m_X1_init 26 [some (.ref l0), some (.int l1)] [] (sR (nM h 6 3 2 n1) l0 2 (hN h)) Z) :
    RR G nc ns m_X1_init 16 [some (.ref l0), some (.int l1)] [] h Z := by
  refine r_aload_n dX1_init_16 rfl ?_
  refine r_iconst (v := 2) dX1_init_17 (by decide) ?_
  refine r_iload_n dX1_init_18 rfl ?_
  refine r_multi_long (N := 2) (K := n1) dX1_init_19 cl_RX1_19 (by decide) (by decide) (by decide) (c1) (c2) (c3) (c4) (c5) ?_
  refine r_putR (c := 1) (k := 2) dX1_init_23 rfl rfl (by decide) fl_RX1_21 (c6) (Or.inr ⟨rfl, rfl, rfl⟩) rfl (c7) ?_
  exact k8

set_option maxRecDepth 20000 in
set_option maxHeartbeats 2000000 in
theorem s_X1_init_26 {G : GG} {nc ns : Nat} {h : PH} {Z : Option Value → PH → Prop} {l0 : Nat} {l1 : Int32}
    (c1 : hK h l0 = 11)
    (k2 : RR G nc ns m_X1_init 31 [some (.ref l0), some (.int l1)] [] (sI h l0 3 0) Z) :
    RR G nc ns m_X1_init 26 [some (.ref l0), some (.int l1)] [] h Z := by
  refine r_aload_n dX1_init_26 rfl ?_
  refine r_iconst (v := 0) dX1_init_27 (by decide) ?_
  refine r_putI (c := 1) (k := 3) dX1_init_28 rfl rfl (by decide) fl_RX1_24 (c1) (Or.inl rfl) (Or.inl rfl) ?_
  exact k2

set_option maxRecDepth 20000 in
set_option maxHeartbeats 2000000 in
theorem s_X1_init_31 {G : GG} {nc ns : Nat} {h : PH} {Z : Option Value → PH → Prop} {l0 : Nat} {l1 : Int32}
    (k1 : Z none h) :
    RR G nc ns m_X1_init 31 [some (.ref l0), some (.int l1)] [] h Z := by
  exact r_return dX1_init_31 rfl (k1)

set_option maxRecDepth 20000 in
set_option maxHeartbeats 2000000 in
theorem s_X1_changes_0 {G : GG} {nc ns : Nat} {h : PH} {Z : Option Value → PH → Prop} {l0 : Nat}
    (c1 : hK h l0 = 11)
    (k2 : Z (some (.int (hI h l0 3))) h) :
    RR G nc ns m_X1_changes 0 [some (.ref l0)] [] h Z := by
  refine r_aload_n dX1_changes_0 rfl ?_
  refine r_get (c := 1) (k := 3) dX1_changes_1 rfl rfl (by decide) fl_RX1_24 (c1) rfl ?_
  exact r_ireturn dX1_changes_4 rfl (k2)

set_option maxRecDepth 20000 in
set_option maxHeartbeats 2000000 in
theorem s_X1_most_0 {G : GG} {nc ns : Nat} {h : PH} {Z : Option Value → PH → Prop} {l0 : Nat}
    (c1 : hK h l0 = 11)
    (k2 : Z (some (.int (hI h l0 0))) h) :
    RR G nc ns m_X1_most 0 [some (.ref l0)] [] h Z := by
  refine r_aload_n dX1_most_0 rfl ?_
  refine r_get (c := 1) (k := 0) dX1_most_1 rfl rfl (by decide) fl_RX1_9 (c1) rfl ?_
  exact r_ireturn dX1_most_4 rfl (k2)

set_option maxRecDepth 20000 in
set_option maxHeartbeats 2000000 in
theorem s_X1_sizeOf_0 {G : GG} {nc ns : Nat} {h : PH} {Z : Option Value → PH → Prop} {l0 : Nat} {l1 : Int32} {x1 : Int32}
    (e1 : Ev G m_X5_isOneOfTwo [.int l1] h 0 0 (Ret (some (.int x1)) h))
    (k2 : (x1 = 0) → Z (some (.int 0)) h)
    (c3 : hK h l0 = 11)
    (c4 : (hR h l0 1) ≠ 0)
    (c5 : hK h (hR h l0 1) = 2)
    (c6 : (¬ x1 = 0) → vp_in l1 (hL h (hR h l0 1)))
    (k7 : (¬ x1 = 0) → Z (some (.int (hI h (hR h l0 1) (Int32.toNatClampNeg l1)))) h) :
    RR G nc ns m_X1_sizeOf 0 [some (.ref l0), some (.int l1)] [] h Z := by
  refine r_iload_n dX1_sizeOf_0 rfl ?_
  refine r_callSN1 (mc := 0) (ms := 0) dX1_sizeOf_1 ck_X5_isOneOfTwo sv_X5_isOneOfTwo lk_RX1_27 (by decide) (by decide) (As := [.int l1]) rfl rfl (Nat.le_of_ble_eq_true rfl) (Or.inl rfl) (Or.inl rfl) (e1) ?_
  refine r_if_eq 16 dX1_sizeOf_4 (by decide) (fun q1 => ?_) (fun q1 => ?_)
  · refine r_iconst (v := 0) dX1_sizeOf_16 (by decide) ?_
    exact r_ireturn dX1_sizeOf_17 rfl (k2 q1)
  · refine r_aload_n dX1_sizeOf_7 rfl ?_
    refine r_getR (c := 1) (k := 1) dX1_sizeOf_8 rfl rfl (by decide) fl_RX1_15 (c3) rfl (c4) ?_
    refine r_iload_n dX1_sizeOf_11 rfl ?_
    refine r_ialoadJ (Int32.toNatClampNeg l1) dX1_sizeOf_12 (c5) (c6 q1) rfl ?_
    refine r_goto (tgt := 17) dX1_sizeOf_13 (by decide) ?_
    exact r_ireturn dX1_sizeOf_17 rfl (k7 q1)

set_option maxRecDepth 20000 in
set_option maxHeartbeats 2000000 in
theorem s_X1_holds_0 {G : GG} {nc ns : Nat} {h : PH} {Z : Option Value → PH → Prop} {l0 : Nat} {l1 : Int32} {l2 : Int32} {x1 : Int32}
    (e1 : Ev G m_X5_isOneOfTwo [.int l1] h 0 0 (Ret (some (.int x1)) h))
    (k2 : (x1 = 0) → Z (some (.int 0)) h)
    (k3 : (¬ x1 = 0) → (l2 < 0) → Z (some (.int 0)) h)
    (c4 : hK h l0 = 11)
    (c5 : (hR h l0 1) ≠ 0)
    (c6 : hK h (hR h l0 1) = 2)
    (c7 : (¬ x1 = 0) → (¬ l2 < 0) → vp_in l1 (hL h (hR h l0 1)))
    (k8 : (¬ x1 = 0) → (¬ l2 < 0) → ((hI h (hR h l0 1) (Int32.toNatClampNeg l1)) ≤ l2) → Z (some (.int 0)) h)
    (k9 : (¬ x1 = 0) → (¬ l2 < 0) → (¬ (hI h (hR h l0 1) (Int32.toNatClampNeg l1)) ≤ l2) → Z (some (.int 1)) h) :
    RR G nc ns m_X1_holds 0 [some (.ref l0), some (.int l1), some (.int l2)] [] h Z := by
  refine r_iload_n dX1_holds_0 rfl ?_
  refine r_callSN1 (mc := 0) (ms := 0) dX1_holds_1 ck_X5_isOneOfTwo sv_X5_isOneOfTwo lk_RX1_27 (by decide) (by decide) (As := [.int l1]) rfl rfl (Nat.le_of_ble_eq_true rfl) (Or.inl rfl) (Or.inl rfl) (e1) ?_
  refine r_if_eq 25 dX1_holds_4 (by decide) (fun q1 => ?_) (fun q1 => ?_)
  · refine r_iconst (v := 0) dX1_holds_25 (by decide) ?_
    exact r_zreturn dX1_holds_26 rfl (by decide) (k2 q1)
  · refine r_iload_n dX1_holds_7 rfl ?_
    refine r_if_lt 25 dX1_holds_8 (by decide) (fun q2 => ?_) (fun q2 => ?_)
    · refine r_iconst (v := 0) dX1_holds_25 (by decide) ?_
      exact r_zreturn dX1_holds_26 rfl (by decide) (k3 q1 q2)
    · refine r_iload_n dX1_holds_11 rfl ?_
      refine r_aload_n dX1_holds_12 rfl ?_
      refine r_getR (c := 1) (k := 1) dX1_holds_13 rfl rfl (by decide) fl_RX1_15 (c4) rfl (c5) ?_
      refine r_iload_n dX1_holds_16 rfl ?_
      refine r_ialoadJ (Int32.toNatClampNeg l1) dX1_holds_17 (c6) (c7 q1 q2) rfl ?_
      refine r_icmp_ge 25 dX1_holds_18 (by decide) (fun q3 => ?_) (fun q3 => ?_)
      · refine r_iconst (v := 0) dX1_holds_25 (by decide) ?_
        exact r_zreturn dX1_holds_26 rfl (by decide) (k8 q1 q2 q3)
      · refine r_iconst (v := 1) dX1_holds_21 (by decide) ?_
        refine r_goto (tgt := 26) dX1_holds_22 (by decide) ?_
        exact r_zreturn dX1_holds_26 rfl (by decide) (k9 q1 q2 q3)

set_option maxRecDepth 20000 in
set_option maxHeartbeats 2000000 in
theorem s_X1_joins_0 {G : GG} {nc ns : Nat} {h : PH} {Z : Option Value → PH → Prop} {l0 : Nat} {l1 : Int32} {l2 : Int32} {x1 : Int32} {x2 : Int32} {x3 : Int32}
    (e1 : Ev G m_X1_holds [.ref l0, .int 0, .int l1] h 0 0 (Ret (some (.int x1)) h))
    (c2 : hK h l0 = 11)
    (k3 : (x1 = 0) → Z (some (.int 0)) h)
    (e4 : (¬ x1 = 0) → Ev G m_X1_holds [.ref l0, .int 1, .int l2] h 0 0 (Ret (some (.int x2)) h))
    (k5 : (¬ x1 = 0) → (x2 = 0) → Z (some (.int 0)) h)
    (c6 : (hR h l0 2) ≠ 0)
    (c7 : (hK h (hR h l0 2) = 5 ∨ hK h (hR h l0 2) = 6))
    (c8 : (¬ x1 = 0) → (¬ x2 = 0) → vp_in 0 (hL h (hR h l0 2)))
    (c9 : (hR h (hR h l0 2) 0) ≠ 0)
    (c10 : hK h (hR h (hR h l0 2) 0) = 3)
    (c11 : (¬ x1 = 0) → (¬ x2 = 0) → vp_in l1 (hL h (hR h (hR h l0 2) 0)))
    (e12 : (¬ x1 = 0) → (¬ x2 = 0) → Ev G m_X5_contains [.long (hJ h (hR h (hR h l0 2) 0) (Int32.toNatClampNeg l1)), .int l2] h 0 0 (Ret (some (.int x3)) h))
    (k13 : (¬ x1 = 0) → (¬ x2 = 0) → (x3 = 0) → Z (some (.int 0)) h)
    (k14 : (¬ x1 = 0) → (¬ x2 = 0) → (¬ x3 = 0) → Z (some (.int 1)) h) :
    RR G nc ns m_X1_joins 0 [some (.ref l0), some (.int l1), some (.int l2)] [] h Z := by
  refine r_aload_n dX1_joins_0 rfl ?_
  refine r_iconst (v := 0) dX1_joins_1 (by decide) ?_
  refine r_iload_n dX1_joins_2 rfl ?_
  refine r_callV1 (c := 1) (mc := 0) (ms := 0) dX1_joins_3 ck_X1_holds iv_X1_holds sl_X1_holds lk_RX1_31 rfl rfl (c2) (by decide) (by decide) (As := [.int 0, .int l1]) rfl rfl (Nat.le_of_ble_eq_true rfl) (Or.inl rfl) (Or.inl rfl) (e1) ?_
  refine r_if_eq 37 dX1_joins_6 (by decide) (fun q1 => ?_) (fun q1 => ?_)
  · refine r_iconst (v := 0) dX1_joins_37 (by decide) ?_
    exact r_zreturn dX1_joins_38 rfl (by decide) (k3 q1)
  · refine r_aload_n dX1_joins_9 rfl ?_
    refine r_iconst (v := 1) dX1_joins_10 (by decide) ?_
    refine r_iload_n dX1_joins_11 rfl ?_
    refine r_callV1 (c := 1) (mc := 0) (ms := 0) dX1_joins_12 ck_X1_holds iv_X1_holds sl_X1_holds lk_RX1_31 rfl rfl (c2) (by decide) (by decide) (As := [.int 1, .int l2]) rfl rfl (Nat.le_of_ble_eq_true rfl) (Or.inl rfl) (Or.inl rfl) (e4 q1) ?_
    refine r_if_eq 37 dX1_joins_15 (by decide) (fun q2 => ?_) (fun q2 => ?_)
    · refine r_iconst (v := 0) dX1_joins_37 (by decide) ?_
      exact r_zreturn dX1_joins_38 rfl (by decide) (k5 q1 q2)
    · refine r_aload_n dX1_joins_18 rfl ?_
      refine r_getR (c := 1) (k := 2) dX1_joins_19 rfl rfl (by decide) fl_RX1_21 (c2) rfl (c6) ?_
      refine r_iconst (v := 0) dX1_joins_22 (by decide) ?_
      refine r_aaloadJ 0 dX1_joins_23 (c7) (c8 q1 q2) (by decide) (c9) ?_
      refine r_iload_n dX1_joins_24 rfl ?_
      refine r_laloadJ (Int32.toNatClampNeg l1) dX1_joins_25 (c10) (c11 q1 q2) rfl ?_
      refine r_iload_n dX1_joins_26 rfl ?_
      refine r_callSN1 (mc := 0) (ms := 0) dX1_joins_27 ck_X5_contains sv_X5_contains lk_RX1_35 (by decide) (by decide) (As := [.long (hJ h (hR h (hR h l0 2) 0) (Int32.toNatClampNeg l1)), .int l2]) rfl rfl (Nat.le_of_ble_eq_true rfl) (Or.inl rfl) (Or.inl rfl) (e12 q1 q2) ?_
      refine r_if_eq 37 dX1_joins_30 (by decide) (fun q3 => ?_) (fun q3 => ?_)
      · refine r_iconst (v := 0) dX1_joins_37 (by decide) ?_
        exact r_zreturn dX1_joins_38 rfl (by decide) (k13 q1 q2 q3)
      · refine r_iconst (v := 1) dX1_joins_33 (by decide) ?_
        refine r_goto (tgt := 38) dX1_joins_34 (by decide) ?_
        exact r_zreturn dX1_joins_38 rfl (by decide) (k14 q1 q2 q3)

set_option maxRecDepth 20000 in
set_option maxHeartbeats 2000000 in
theorem s_X1_all_0 {G : GG} {nc ns : Nat} {h : PH} {Z : Option Value → PH → Prop} {l0 : Nat} {l1 : Int32} {x1 : Int32}
    (e1 : Ev G m_X5_isOneOfTwo [.int l1] h 0 0 (Ret (some (.int x1)) h))
    (k2 : (x1 = 0) → Z (some (.long 0)) h)
    (c3 : hK h l0 = 11)
    (c4 : (hR h l0 1) ≠ 0)
    (c5 : hK h (hR h l0 1) = 2)
    (c6 : (¬ x1 = 0) → vp_in l1 (hL h (hR h l0 1)))
    (k7 : (¬ x1 = 0) → Z (some (.long ((1 <<< (Int32.toInt64 (hI h (hR h l0 1) (Int32.toNatClampNeg l1)) &&& 63)) - 1))) h) :
    RR G nc ns m_X1_all 0 [some (.ref l0), some (.int l1)] [] h Z := by
  refine r_iload_n dX1_all_0 rfl ?_
  refine r_callSN1 (mc := 0) (ms := 0) dX1_all_1 ck_X5_isOneOfTwo sv_X5_isOneOfTwo lk_RX1_27 (by decide) (by decide) (As := [.int l1]) rfl rfl (Nat.le_of_ble_eq_true rfl) (Or.inl rfl) (Or.inl rfl) (e1) ?_
  refine r_if_eq 20 dX1_all_4 (by decide) (fun q1 => ?_) (fun q1 => ?_)
  · refine r_lconst (v := 0) dX1_all_20 (by decide) ?_
    exact r_lreturn dX1_all_21 rfl (k2 q1)
  · refine r_lconst (v := 1) dX1_all_7 (by decide) ?_
    refine r_aload_n dX1_all_8 rfl ?_
    refine r_getR (c := 1) (k := 1) dX1_all_9 rfl rfl (by decide) fl_RX1_15 (c3) rfl (c4) ?_
    refine r_iload_n dX1_all_12 rfl ?_
    refine r_ialoadJ (Int32.toNatClampNeg l1) dX1_all_13 (c5) (c6 q1) rfl ?_
    refine r_lshl dX1_all_14 ?_
    refine r_lconst (v := 1) dX1_all_15 (by decide) ?_
    refine r_lsub dX1_all_16 ?_
    refine r_goto (tgt := 21) dX1_all_17 (by decide) ?_
    exact r_lreturn dX1_all_21 rfl (k7 q1)

set_option maxRecDepth 20000 in
set_option maxHeartbeats 2000000 in
theorem s_X1_across_0 {G : GG} {nc ns : Nat} {h : PH} {Z : Option Value → PH → Prop} {l0 : Nat} {l1 : Int32} {l2 : Int32} {x1 : Int32}
    (e1 : Ev G m_X1_holds [.ref l0, .int l1, .int l2] h 0 0 (Ret (some (.int x1)) h))
    (c2 : hK h l0 = 11)
    (k3 : (x1 = 0) → Z (some (.long 0)) h)
    (c4 : (hR h l0 2) ≠ 0)
    (c5 : (hK h (hR h l0 2) = 5 ∨ hK h (hR h l0 2) = 6))
    (c6 : (¬ x1 = 0) → vp_in l1 (hL h (hR h l0 2)))
    (c7 : (¬ x1 = 0) → (hR h (hR h l0 2) (Int32.toNatClampNeg l1)) ≠ 0)
    (c8 : (¬ x1 = 0) → hK h (hR h (hR h l0 2) (Int32.toNatClampNeg l1)) = 3)
    (c9 : (¬ x1 = 0) → vp_in l2 (hL h (hR h (hR h l0 2) (Int32.toNatClampNeg l1))))
    (k10 : (¬ x1 = 0) → Z (some (.long (hJ h (hR h (hR h l0 2) (Int32.toNatClampNeg l1)) (Int32.toNatClampNeg l2)))) h) :
    RR G nc ns m_X1_across 0 [some (.ref l0), some (.int l1), some (.int l2)] [] h Z := by
  refine r_aload_n dX1_across_0 rfl ?_
  refine r_iload_n dX1_across_1 rfl ?_
  refine r_iload_n dX1_across_2 rfl ?_
  refine r_callV1 (c := 1) (mc := 0) (ms := 0) dX1_across_3 ck_X1_holds iv_X1_holds sl_X1_holds lk_RX1_31 rfl rfl (c2) (by decide) (by decide) (As := [.int l1, .int l2]) rfl rfl (Nat.le_of_ble_eq_true rfl) (Or.inl rfl) (Or.inl rfl) (e1) ?_
  refine r_if_eq 20 dX1_across_6 (by decide) (fun q1 => ?_) (fun q1 => ?_)
  · refine r_lconst (v := 0) dX1_across_20 (by decide) ?_
    exact r_lreturn dX1_across_21 rfl (k3 q1)
  · refine r_aload_n dX1_across_9 rfl ?_
    refine r_getR (c := 1) (k := 2) dX1_across_10 rfl rfl (by decide) fl_RX1_21 (c2) rfl (c4) ?_
    refine r_iload_n dX1_across_13 rfl ?_
    refine r_aaloadJ (Int32.toNatClampNeg l1) dX1_across_14 (c5) (c6 q1) rfl (c7 q1) ?_
    refine r_iload_n dX1_across_15 rfl ?_
    refine r_laloadJ (Int32.toNatClampNeg l2) dX1_across_16 (c8 q1) (c9 q1) rfl ?_
    refine r_goto (tgt := 21) dX1_across_17 (by decide) ?_
    exact r_lreturn dX1_across_21 rfl (k10 q1)

set_option maxRecDepth 20000 in
set_option maxHeartbeats 2000000 in
theorem s_X1_neighbours_0 {G : GG} {nc ns : Nat} {h : PH} {Z : Option Value → PH → Prop} {l0 : Nat} {l1 : Int32} {l2 : Int64}
    (k1 : RR G nc ns m_X1_neighbours 6 [some (.ref l0), some (.int l1), some (.long l2), none, some (.long 0), none, some (.int 0)] [] h Z) :
    RR G nc ns m_X1_neighbours 0 [some (.ref l0), some (.int l1), some (.long l2), none, none, none, none] [] h Z := by
  refine r_lconst (v := 0) dX1_neighbours_0 (by decide) ?_
  refine r_lstoreL [some (.ref l0), some (.int l1), some (.long l2), none, some (.long 0), none, none] dX1_neighbours_1 (by decide) rfl ?_
  refine r_iconst (v := 0) dX1_neighbours_3 (by decide) ?_
  refine r_istoreL [some (.ref l0), some (.int l1), some (.long l2), none, some (.long 0), none, some (.int 0)] dX1_neighbours_4 (by decide) rfl ?_
  exact k1

set_option maxRecDepth 20000 in
set_option maxHeartbeats 2000000 in
theorem s_X1_neighbours_6 {G : GG} {nc ns : Nat} {h : PH} {Z : Option Value → PH → Prop} {l0 : Nat} {l1 : Int32} {l2 : Int64} {l4 : Int64} {l6 : Int32} {x1 : Int32} {x2 : Int32}
    (e1 : Ev G m_X1_sizeOf [.ref l0, .int l1] h 0 0 (Ret (some (.int x1)) h))
    (c2 : hK h l0 = 11)
    (k3 : (x1 ≤ l6) → Z (some (.long l4)) h)
    (e4 : (¬ x1 ≤ l6) → Ev G m_X5_contains [.long l2, .int l6] h 0 0 (Ret (some (.int x2)) h))
    (k5 : (¬ x1 ≤ l6) → (x2 = 0) → RR G nc ns m_X1_neighbours 6 [some (.ref l0), some (.int l1), some (.long l2), none, some (.long l4), none, some (.int (l6 + 1))] [] h Z)
    (c6 : (hR h l0 2) ≠ 0)
    (c7 : (hK h (hR h l0 2) = 5 ∨ hK h (hR h l0 2) = 6))
    (c8 : (¬ x1 ≤ l6) → (¬ x2 = 0) → vp_in l1 (hL h (hR h l0 2)))
    (c9 : (¬ x1 ≤ l6) → (¬ x2 = 0) → (hR h (hR h l0 2) (Int32.toNatClampNeg l1)) ≠ 0)
    (c10 : (¬ x1 ≤ l6) → (¬ x2 = 0) → hK h (hR h (hR h l0 2) (Int32.toNatClampNeg l1)) = 3)
    (c11 : (¬ x1 ≤ l6) → (¬ x2 = 0) → vp_in l6 (hL h (hR h (hR h l0 2) (Int32.toNatClampNeg l1))))
    (k12 : (¬ x1 ≤ l6) → (¬ x2 = 0) → RR G nc ns m_X1_neighbours 6 [some (.ref l0), some (.int l1), some (.long l2), none, some (.long (l4 ||| (hJ h (hR h (hR h l0 2) (Int32.toNatClampNeg l1)) (Int32.toNatClampNeg l6)))), none, some (.int (l6 + 1))] [] h Z) :
    RR G nc ns m_X1_neighbours 6 [some (.ref l0), some (.int l1), some (.long l2), none, some (.long l4), none, some (.int l6)] [] h Z := by
  refine r_iload dX1_neighbours_6 rfl ?_
  refine r_aload_n dX1_neighbours_8 rfl ?_
  refine r_iload_n dX1_neighbours_9 rfl ?_
  refine r_callV1 (c := 1) (mc := 0) (ms := 0) dX1_neighbours_10 ck_X1_sizeOf iv_X1_sizeOf sl_X1_sizeOf lk_RX1_39 rfl rfl (c2) (by decide) (by decide) (As := [.int l1]) rfl rfl (Nat.le_of_ble_eq_true rfl) (Or.inl rfl) (Or.inl rfl) (e1) ?_
  refine r_icmp_ge 45 dX1_neighbours_13 (by decide) (fun q1 => ?_) (fun q1 => ?_)
  · refine r_lload dX1_neighbours_45 rfl ?_
    exact r_lreturn dX1_neighbours_47 rfl (k3 q1)
  · refine r_lload_n dX1_neighbours_16 rfl ?_
    refine r_iload dX1_neighbours_17 rfl ?_
    refine r_callSN1 (mc := 0) (ms := 0) dX1_neighbours_19 ck_X5_contains sv_X5_contains lk_RX1_35 (by decide) (by decide) (As := [.long l2, .int l6]) rfl rfl (Nat.le_of_ble_eq_true rfl) (Or.inl rfl) (Or.inl rfl) (e4 q1) ?_
    refine r_if_eq 39 dX1_neighbours_22 (by decide) (fun q2 => ?_) (fun q2 => ?_)
    · refine r_iincL (v := l6 + 1) [some (.ref l0), some (.int l1), some (.long l2), none, some (.long l4), none, some (.int (l6 + 1))] dX1_neighbours_39 rfl (by decide) rfl rfl ?_
      refine r_goto (tgt := 6) dX1_neighbours_42 (by decide) ?_
      exact k5 q1 q2
    · refine r_lload dX1_neighbours_25 rfl ?_
      refine r_aload_n dX1_neighbours_27 rfl ?_
      refine r_getR (c := 1) (k := 2) dX1_neighbours_28 rfl rfl (by decide) fl_RX1_21 (c2) rfl (c6) ?_
      refine r_iload_n dX1_neighbours_31 rfl ?_
      refine r_aaloadJ (Int32.toNatClampNeg l1) dX1_neighbours_32 (c7) (c8 q1 q2) rfl (c9 q1 q2) ?_
      refine r_iload dX1_neighbours_33 rfl ?_
      refine r_laloadJ (Int32.toNatClampNeg l6) dX1_neighbours_35 (c10 q1 q2) (c11 q1 q2) rfl ?_
      refine r_lor dX1_neighbours_36 ?_
      refine r_lstoreL [some (.ref l0), some (.int l1), some (.long l2), none, some (.long (l4 ||| (hJ h (hR h (hR h l0 2) (Int32.toNatClampNeg l1)) (Int32.toNatClampNeg l6)))), none, some (.int l6)] dX1_neighbours_37 (by decide) rfl ?_
      refine r_iincL (v := l6 + 1) [some (.ref l0), some (.int l1), some (.long l2), none, some (.long (l4 ||| (hJ h (hR h (hR h l0 2) (Int32.toNatClampNeg l1)) (Int32.toNatClampNeg l6)))), none, some (.int (l6 + 1))] dX1_neighbours_39 rfl (by decide) rfl rfl ?_
      refine r_goto (tgt := 6) dX1_neighbours_42 (by decide) ?_
      exact k12 q1 q2

set_option maxRecDepth 20000 in
set_option maxHeartbeats 2000000 in
theorem s_X1_edges_0 {G : GG} {nc ns : Nat} {h : PH} {Z : Option Value → PH → Prop} {l0 : Nat}
    (k1 : RR G nc ns m_X1_edges 4 [some (.ref l0), some (.int 0), some (.int 0)] [] h Z) :
    RR G nc ns m_X1_edges 0 [some (.ref l0), none, none] [] h Z := by
  refine r_iconst (v := 0) dX1_edges_0 (by decide) ?_
  refine r_istore_nL [some (.ref l0), some (.int 0), none] dX1_edges_1 (by decide) rfl ?_
  refine r_iconst (v := 0) dX1_edges_2 (by decide) ?_
  refine r_istore_nL [some (.ref l0), some (.int 0), some (.int 0)] dX1_edges_3 (by decide) rfl ?_
  exact k1

set_option maxRecDepth 20000 in
set_option maxHeartbeats 2000000 in
theorem s_X1_edges_4 {G : GG} {nc ns : Nat} {h : PH} {Z : Option Value → PH → Prop} {l0 : Nat} {l1 : Int32} {l2 : Int32} {x1 : Int32}
    (c1 : hK h l0 = 11)
    (c2 : (hR h l0 1) ≠ 0)
    (c3 : hK h (hR h l0 1) = 2)
    (c4 : vp_in 0 (hL h (hR h l0 1)))
    (k5 : ((hI h (hR h l0 1) 0) ≤ l2) → Z (some (.int l1)) h)
    (c6 : (hR h l0 2) ≠ 0)
    (c7 : (hK h (hR h l0 2) = 5 ∨ hK h (hR h l0 2) = 6))
    (c8 : (¬ (hI h (hR h l0 1) 0) ≤ l2) → vp_in 0 (hL h (hR h l0 2)))
    (c9 : (hR h (hR h l0 2) 0) ≠ 0)
    (c10 : hK h (hR h (hR h l0 2) 0) = 3)
    (c11 : (¬ (hI h (hR h l0 1) 0) ≤ l2) → vp_in l2 (hL h (hR h (hR h l0 2) 0)))
    (e12 : (¬ (hI h (hR h l0 1) 0) ≤ l2) → Ev G m_J13_bitCount_95d88 [.long (hJ h (hR h (hR h l0 2) 0) (Int32.toNatClampNeg l2))] h 0 0 (Ret (some (.int x1)) h))
    (k13 : (¬ (hI h (hR h l0 1) 0) ≤ l2) → RR G nc ns m_X1_edges 4 [some (.ref l0), some (.int (l1 + x1)), some (.int (l2 + 1))] [] h Z) :
    RR G nc ns m_X1_edges 4 [some (.ref l0), some (.int l1), some (.int l2)] [] h Z := by
  refine r_iload_n dX1_edges_4 rfl ?_
  refine r_aload_n dX1_edges_5 rfl ?_
  refine r_getR (c := 1) (k := 1) dX1_edges_6 rfl rfl (by decide) fl_RX1_15 (c1) rfl (c2) ?_
  refine r_iconst (v := 0) dX1_edges_9 (by decide) ?_
  refine r_ialoadJ 0 dX1_edges_10 (c3) (c4) (by decide) ?_
  refine r_icmp_ge 34 dX1_edges_11 (by decide) (fun q1 => ?_) (fun q1 => ?_)
  · refine r_iload_n dX1_edges_34 rfl ?_
    exact r_ireturn dX1_edges_35 rfl (k5 q1)
  · refine r_iload_n dX1_edges_14 rfl ?_
    refine r_aload_n dX1_edges_15 rfl ?_
    refine r_getR (c := 1) (k := 2) dX1_edges_16 rfl rfl (by decide) fl_RX1_21 (c1) rfl (c6) ?_
    refine r_iconst (v := 0) dX1_edges_19 (by decide) ?_
    refine r_aaloadJ 0 dX1_edges_20 (c7) (c8 q1) (by decide) (c9) ?_
    refine r_iload_n dX1_edges_21 rfl ?_
    refine r_laloadJ (Int32.toNatClampNeg l2) dX1_edges_22 (c10) (c11 q1) rfl ?_
    refine r_callS1 (mc := 0) (ms := 0) dX1_edges_23 ck_J13_bitCount_95d88 sv_J13_bitCount_95d88 lk_RX1_43 (by decide) (by decide) (As := [.long (hJ h (hR h (hR h l0 2) 0) (Int32.toNatClampNeg l2))]) rfl rfl (Nat.le_of_ble_eq_true rfl) (Or.inl rfl) (Or.inl rfl) (e12 q1) ?_
    refine r_iadd dX1_edges_26 ?_
    refine r_istore_nL [some (.ref l0), some (.int (l1 + x1)), some (.int l2)] dX1_edges_27 (by decide) rfl ?_
    refine r_iincL (v := l2 + 1) [some (.ref l0), some (.int (l1 + x1)), some (.int (l2 + 1))] dX1_edges_28 rfl (by decide) rfl rfl ?_
    refine r_goto (tgt := 4) dX1_edges_31 (by decide) ?_
    exact k13 q1

set_option maxRecDepth 20000 in
set_option maxHeartbeats 2000000 in
theorem s_X1_add_0 {G : GG} {nc ns : Nat} {h : PH} {Z : Option Value → PH → Prop} {l0 : Nat} {l1 : Int32} {x1 : Int32}
    (e1 : Ev G m_X5_isOneOfTwo [.int l1] h 0 0 (Ret (some (.int x1)) h))
    (c2 : hK h l0 = 11)
    (c3 : (hR h l0 1) ≠ 0)
    (c4 : hK h (hR h l0 1) = 2)
    (c5 : (¬ x1 = 0) → vp_in l1 (hL h (hR h l0 1)))
    (k6 : (¬ x1 = 0) → ((hI h (hR h l0 1) (Int32.toNatClampNeg l1)) < (hI h l0 0)) → Z (some (.int (hI h (hR h l0 1) (Int32.toNatClampNeg l1)))) (sI (sI h (hR h l0 1) (Int32.toNatClampNeg l1) ((hI h (hR h l0 1) (Int32.toNatClampNeg l1)) + 1)) l0 3 ((hI (sI h (hR h l0 1) (Int32.toNatClampNeg l1) ((hI h (hR h l0 1) (Int32.toNatClampNeg l1)) + 1)) l0 3) + 1)))
    (k7 : (¬ x1 = 0) → (¬ (hI h (hR h l0 1) (Int32.toNatClampNeg l1)) < (hI h l0 0)) → Z (some (.int (-2))) h)
    (k8 : (x1 = 0) → Z (some (.int (-1))) h) :
    RR G nc ns m_X1_add 0 [some (.ref l0), some (.int l1), none] [] h Z := by
  refine r_iload_n dX1_add_0 rfl ?_
  refine r_callSN1 (mc := 0) (ms := 0) dX1_add_1 ck_X5_isOneOfTwo sv_X5_isOneOfTwo lk_RX1_27 (by decide) (by decide) (As := [.int l1]) rfl rfl (Nat.le_of_ble_eq_true rfl) (Or.inl rfl) (Or.inl rfl) (e1) ?_
  refine r_if_ne 9 dX1_add_4 (by decide) (fun q1 => ?_) (fun q1 => ?_)
  · refine r_aload_n dX1_add_9 rfl ?_
    refine r_getR (c := 1) (k := 1) dX1_add_10 rfl rfl (by decide) fl_RX1_15 (c2) rfl (c3) ?_
    refine r_iload_n dX1_add_13 rfl ?_
    refine r_ialoadJ (Int32.toNatClampNeg l1) dX1_add_14 (c4) (c5 q1) rfl ?_
    refine r_istore_nL [some (.ref l0), some (.int l1), some (.int (hI h (hR h l0 1) (Int32.toNatClampNeg l1)))] dX1_add_15 (by decide) rfl ?_
    refine r_iload_n dX1_add_16 rfl ?_
    refine r_aload_n dX1_add_17 rfl ?_
    refine r_get (c := 1) (k := 0) dX1_add_18 rfl rfl (by decide) fl_RX1_9 (c2) rfl ?_
    refine r_icmp_lt 27 dX1_add_21 (by decide) (fun q2 => ?_) (fun q2 => ?_)
    · refine r_aload_n dX1_add_27 rfl ?_
      refine r_getR (c := 1) (k := 1) dX1_add_28 rfl rfl (by decide) fl_RX1_15 (c2) rfl (c3) ?_
      refine r_iload_n dX1_add_31 rfl ?_
      refine r_iload_n dX1_add_32 rfl ?_
      refine r_iconst (v := 1) dX1_add_33 (by decide) ?_
      refine r_iadd dX1_add_34 ?_
      refine r_iastoreJ (Int32.toNatClampNeg l1) dX1_add_35 (c4) (c5 q1) rfl ?_
      refine r_aload_n dX1_add_36 rfl ?_
      refine r_dup dX1_add_37 rfl ?_
      refine r_get (c := 1) (k := 3) dX1_add_38 rfl rfl (by decide) fl_RX1_24 (c2) rfl ?_
      refine r_iconst (v := 1) dX1_add_41 (by decide) ?_
      refine r_iadd dX1_add_42 ?_
      refine r_putI (c := 1) (k := 3) dX1_add_43 rfl rfl (by decide) fl_RX1_24 (c2) (Or.inl rfl) (Or.inl rfl) ?_
      refine r_iload_n dX1_add_46 rfl ?_
      exact r_ireturn dX1_add_47 rfl (k6 q1 q2)
    · refine r_bipush (v := (-2)) dX1_add_24 (by decide) ?_
      exact r_ireturn dX1_add_26 rfl (k7 q1 q2)
  · refine r_iconst (v := (-1)) dX1_add_7 (by decide) ?_
    exact r_ireturn dX1_add_8 rfl (k8 q1)

set_option maxRecDepth 20000 in
set_option maxHeartbeats 2000000 in
theorem s_X1_joinAll_0 {G : GG} {nc ns : Nat} {h : PH} {Z : Option Value → PH → Prop} {l0 : Nat} {l1 : Int64} {l3 : Int64}
    (k1 : RR G nc ns m_X1_joinAll 3 [some (.ref l0), some (.long l1), none, some (.long l3), none, some (.int 0)] [] h Z) :
    RR G nc ns m_X1_joinAll 0 [some (.ref l0), some (.long l1), none, some (.long l3), none, none] [] h Z := by
  refine r_iconst (v := 0) dX1_joinAll_0 (by decide) ?_
  refine r_istoreL [some (.ref l0), some (.long l1), none, some (.long l3), none, some (.int 0)] dX1_joinAll_1 (by decide) rfl ?_
  exact k1

set_option maxRecDepth 20000 in
set_option maxHeartbeats 2000000 in
theorem s_X1_joinAll_3 {G : GG} {nc ns : Nat} {h : PH} {Z : Option Value → PH → Prop} {l0 : Nat} {l1 : Int64} {l3 : Int64} {l5 : Int32} {x1 : Int32}
    (c1 : hK h l0 = 11)
    (c2 : (hR h l0 1) ≠ 0)
    (c3 : hK h (hR h l0 1) = 2)
    (c4 : vp_in 0 (hL h (hR h l0 1)))
    (k5 : ((hI h (hR h l0 1) 0) ≤ l5) → RR G nc ns m_X1_joinAll 45 [some (.ref l0), some (.long l1), none, some (.long l3), none, some (.int 0)] [] h Z)
    (e6 : (¬ (hI h (hR h l0 1) 0) ≤ l5) → Ev G m_X5_contains [.long l1, .int l5] h 0 0 (Ret (some (.int x1)) h))
    (k7 : (¬ (hI h (hR h l0 1) 0) ≤ l5) → (x1 = 0) → RR G nc ns m_X1_joinAll 3 [some (.ref l0), some (.long l1), none, some (.long l3), none, some (.int (l5 + 1))] [] h Z)
    (c8 : (hR h l0 2) ≠ 0)
    (c9 : (hK h (hR h l0 2) = 5 ∨ hK h (hR h l0 2) = 6))
    (c10 : (¬ (hI h (hR h l0 1) 0) ≤ l5) → (¬ x1 = 0) → vp_in 0 (hL h (hR h l0 2)))
    (c11 : (hR h (hR h l0 2) 0) ≠ 0)
    (c12 : hK h (hR h (hR h l0 2) 0) = 3)
    (c13 : (¬ (hI h (hR h l0 1) 0) ≤ l5) → (¬ x1 = 0) → vp_in l5 (hL h (hR h (hR h l0 2) 0)))
    (k14 : (¬ (hI h (hR h l0 1) 0) ≤ l5) → (¬ x1 = 0) → RR G nc ns m_X1_joinAll 3 [some (.ref l0), some (.long l1), none, some (.long l3), none, some (.int (l5 + 1))] [] (sJ h (hR h (hR h l0 2) 0) (Int32.toNatClampNeg l5) ((hJ h (hR h (hR h l0 2) 0) (Int32.toNatClampNeg l5)) ||| l3)) Z) :
    RR G nc ns m_X1_joinAll 3 [some (.ref l0), some (.long l1), none, some (.long l3), none, some (.int l5)] [] h Z := by
  refine r_iload dX1_joinAll_3 rfl ?_
  refine r_aload_n dX1_joinAll_5 rfl ?_
  refine r_getR (c := 1) (k := 1) dX1_joinAll_6 rfl rfl (by decide) fl_RX1_15 (c1) rfl (c2) ?_
  refine r_iconst (v := 0) dX1_joinAll_9 (by decide) ?_
  refine r_ialoadJ 0 dX1_joinAll_10 (c3) (c4) (by decide) ?_
  refine r_icmp_ge 42 dX1_joinAll_11 (by decide) (fun q1 => ?_) (fun q1 => ?_)
  · refine r_iconst (v := 0) dX1_joinAll_42 (by decide) ?_
    refine r_istoreL [some (.ref l0), some (.long l1), none, some (.long l3), none, some (.int 0)] dX1_joinAll_43 (by decide) rfl ?_
    exact k5 q1
  · refine r_lload_n dX1_joinAll_14 rfl ?_
    refine r_iload dX1_joinAll_15 rfl ?_
    refine r_callSN1 (mc := 0) (ms := 0) dX1_joinAll_17 ck_X5_contains sv_X5_contains lk_RX1_35 (by decide) (by decide) (As := [.long l1, .int l5]) rfl rfl (Nat.le_of_ble_eq_true rfl) (Or.inl rfl) (Or.inl rfl) (e6 q1) ?_
    refine r_if_eq 36 dX1_joinAll_20 (by decide) (fun q2 => ?_) (fun q2 => ?_)
    · refine r_iincL (v := l5 + 1) [some (.ref l0), some (.long l1), none, some (.long l3), none, some (.int (l5 + 1))] dX1_joinAll_36 rfl (by decide) rfl rfl ?_
      refine r_goto (tgt := 3) dX1_joinAll_39 (by decide) ?_
      exact k7 q1 q2
    · refine r_aload_n dX1_joinAll_23 rfl ?_
      refine r_getR (c := 1) (k := 2) dX1_joinAll_24 rfl rfl (by decide) fl_RX1_21 (c1) rfl (c8) ?_
      refine r_iconst (v := 0) dX1_joinAll_27 (by decide) ?_
      refine r_aaloadJ 0 dX1_joinAll_28 (c9) (c10 q1 q2) (by decide) (c11) ?_
      refine r_iload dX1_joinAll_29 rfl ?_
      refine r_dup2 dX1_joinAll_31 rfl rfl ?_
      refine r_laloadJ (Int32.toNatClampNeg l5) dX1_joinAll_32 (c12) (c13 q1 q2) rfl ?_
      refine r_lload_n dX1_joinAll_33 rfl ?_
      refine r_lor dX1_joinAll_34 ?_
      refine r_lastoreJ (Int32.toNatClampNeg l5) dX1_joinAll_35 (c12) (c13 q1 q2) rfl ?_
      refine r_iincL (v := l5 + 1) [some (.ref l0), some (.long l1), none, some (.long l3), none, some (.int (l5 + 1))] dX1_joinAll_36 rfl (by decide) rfl rfl ?_
      refine r_goto (tgt := 3) dX1_joinAll_39 (by decide) ?_
      exact k14 q1 q2

set_option maxRecDepth 20000 in
set_option maxHeartbeats 2000000 in
theorem s_X1_joinAll_45 {G : GG} {nc ns : Nat} {h : PH} {Z : Option Value → PH → Prop} {l0 : Nat} {l1 : Int64} {l3 : Int64} {l5 : Int32} {x1 : Int32}
    (c1 : hK h l0 = 11)
    (c2 : (hR h l0 1) ≠ 0)
    (c3 : hK h (hR h l0 1) = 2)
    (c4 : vp_in 1 (hL h (hR h l0 1)))
    (k5 : ((hI h (hR h l0 1) 1) ≤ l5) → Z none (sI h l0 3 ((hI h l0 3) + 1)))
    (e6 : (¬ (hI h (hR h l0 1) 1) ≤ l5) → Ev G m_X5_contains [.long l3, .int l5] h 0 0 (Ret (some (.int x1)) h))
    (k7 : (¬ (hI h (hR h l0 1) 1) ≤ l5) → (x1 = 0) → RR G nc ns m_X1_joinAll 45 [some (.ref l0), some (.long l1), none, some (.long l3), none, some (.int (l5 + 1))] [] h Z)
    (c8 : (hR h l0 2) ≠ 0)
    (c9 : (hK h (hR h l0 2) = 5 ∨ hK h (hR h l0 2) = 6))
    (c10 : (¬ (hI h (hR h l0 1) 1) ≤ l5) → (¬ x1 = 0) → vp_in 1 (hL h (hR h l0 2)))
    (c11 : (hR h (hR h l0 2) 1) ≠ 0)
    (c12 : hK h (hR h (hR h l0 2) 1) = 3)
    (c13 : (¬ (hI h (hR h l0 1) 1) ≤ l5) → (¬ x1 = 0) → vp_in l5 (hL h (hR h (hR h l0 2) 1)))
    (k14 : (¬ (hI h (hR h l0 1) 1) ≤ l5) → (¬ x1 = 0) → RR G nc ns m_X1_joinAll 45 [some (.ref l0), some (.long l1), none, some (.long l3), none, some (.int (l5 + 1))] [] (sJ h (hR h (hR h l0 2) 1) (Int32.toNatClampNeg l5) ((hJ h (hR h (hR h l0 2) 1) (Int32.toNatClampNeg l5)) ||| l1)) Z) :
    RR G nc ns m_X1_joinAll 45 [some (.ref l0), some (.long l1), none, some (.long l3), none, some (.int l5)] [] h Z := by
  refine r_iload dX1_joinAll_45 rfl ?_
  refine r_aload_n dX1_joinAll_47 rfl ?_
  refine r_getR (c := 1) (k := 1) dX1_joinAll_48 rfl rfl (by decide) fl_RX1_15 (c1) rfl (c2) ?_
  refine r_iconst (v := 1) dX1_joinAll_51 (by decide) ?_
  refine r_ialoadJ 1 dX1_joinAll_52 (c3) (c4) (by decide) ?_
  refine r_icmp_ge 84 dX1_joinAll_53 (by decide) (fun q1 => ?_) (fun q1 => ?_)
  · refine r_aload_n dX1_joinAll_84 rfl ?_
    refine r_dup dX1_joinAll_85 rfl ?_
    refine r_get (c := 1) (k := 3) dX1_joinAll_86 rfl rfl (by decide) fl_RX1_24 (c1) rfl ?_
    refine r_iconst (v := 1) dX1_joinAll_89 (by decide) ?_
    refine r_iadd dX1_joinAll_90 ?_
    refine r_putI (c := 1) (k := 3) dX1_joinAll_91 rfl rfl (by decide) fl_RX1_24 (c1) (Or.inl rfl) (Or.inl rfl) ?_
    exact r_return dX1_joinAll_94 rfl (k5 q1)
  · refine r_lload_n dX1_joinAll_56 rfl ?_
    refine r_iload dX1_joinAll_57 rfl ?_
    refine r_callSN1 (mc := 0) (ms := 0) dX1_joinAll_59 ck_X5_contains sv_X5_contains lk_RX1_35 (by decide) (by decide) (As := [.long l3, .int l5]) rfl rfl (Nat.le_of_ble_eq_true rfl) (Or.inl rfl) (Or.inl rfl) (e6 q1) ?_
    refine r_if_eq 78 dX1_joinAll_62 (by decide) (fun q2 => ?_) (fun q2 => ?_)
    · refine r_iincL (v := l5 + 1) [some (.ref l0), some (.long l1), none, some (.long l3), none, some (.int (l5 + 1))] dX1_joinAll_78 rfl (by decide) rfl rfl ?_
      refine r_goto (tgt := 45) dX1_joinAll_81 (by decide) ?_
      exact k7 q1 q2
    · refine r_aload_n dX1_joinAll_65 rfl ?_
      refine r_getR (c := 1) (k := 2) dX1_joinAll_66 rfl rfl (by decide) fl_RX1_21 (c1) rfl (c8) ?_
      refine r_iconst (v := 1) dX1_joinAll_69 (by decide) ?_
      refine r_aaloadJ 1 dX1_joinAll_70 (c9) (c10 q1 q2) (by decide) (c11) ?_
      refine r_iload dX1_joinAll_71 rfl ?_
      refine r_dup2 dX1_joinAll_73 rfl rfl ?_
      refine r_laloadJ (Int32.toNatClampNeg l5) dX1_joinAll_74 (c12) (c13 q1 q2) rfl ?_
      refine r_lload_n dX1_joinAll_75 rfl ?_
      refine r_lor dX1_joinAll_76 ?_
      refine r_lastoreJ (Int32.toNatClampNeg l5) dX1_joinAll_77 (c12) (c13 q1 q2) rfl ?_
      refine r_iincL (v := l5 + 1) [some (.ref l0), some (.long l1), none, some (.long l3), none, some (.int (l5 + 1))] dX1_joinAll_78 rfl (by decide) rfl rfl ?_
      refine r_goto (tgt := 45) dX1_joinAll_81 (by decide) ?_
      exact k14 q1 q2

set_option maxRecDepth 20000 in
set_option maxHeartbeats 2000000 in
theorem s_X1_unjoin_0 {G : GG} {nc ns : Nat} {h : PH} {Z : Option Value → PH → Prop} {l0 : Nat} {l1 : Int32} {l2 : Int32} {x1 : Int32} {x2 : Int32}
    (e1 : Ev G m_X1_holds [.ref l0, .int 0, .int l1] h 0 0 (Ret (some (.int x1)) h))
    (c2 : hK h l0 = 11)
    (k3 : (x1 = 0) → Z none h)
    (e4 : (¬ x1 = 0) → Ev G m_X1_holds [.ref l0, .int 1, .int l2] h 0 0 (Ret (some (.int x2)) h))
    (k5 : (¬ x1 = 0) → (x2 = 0) → Z none h)
    (c6 : (hR h l0 2) ≠ 0)
    (c7 : (hK h (hR h l0 2) = 5 ∨ hK h (hR h l0 2) = 6))
    (c8 : (¬ x1 = 0) → (¬ x2 = 0) → vp_in 0 (hL h (hR h l0 2)))
    (c9 : (hR h (hR h l0 2) 0) ≠ 0)
    (c10 : hK h (hR h (hR h l0 2) 0) = 3)
    (c11 : (¬ x1 = 0) → (¬ x2 = 0) → vp_in l1 (hL h (hR h (hR h l0 2) 0)))
    (c12 : (¬ x1 = 0) → (¬ x2 = 0) → vp_in 1 (hL h (hR h l0 2)))
    (c13 : (hR h (hR h l0 2) 1) ≠ 0)
    (c14 : hK h (hR h (hR h l0 2) 1) = 3)
    (c15 : (¬ x1 = 0) → (¬ x2 = 0) → vp_in l2 (hL h (hR h (hR h l0 2) 1)))
    (k16 : (¬ x1 = 0) → (¬ x2 = 0) → Z none (sI (sJ (sJ h (hR h (hR h l0 2) 0) (Int32.toNatClampNeg l1) ((hJ h (hR h (hR h l0 2) 0) (Int32.toNatClampNeg l1)) &&& ((1 <<< (Int32.toInt64 l2 &&& 63)) ^^^ (-1)))) (hR h (hR h l0 2) 1) (Int32.toNatClampNeg l2) ((hJ (sJ h (hR h (hR h l0 2) 0) (Int32.toNatClampNeg l1) ((hJ h (hR h (hR h l0 2) 0) (Int32.toNatClampNeg l1)) &&& ((1 <<< (Int32.toInt64 l2 &&& 63)) ^^^ (-1)))) (hR h (hR h l0 2) 1) (Int32.toNatClampNeg l2)) &&& ((1 <<< (Int32.toInt64 l1 &&& 63)) ^^^ (-1)))) l0 3 ((hI h l0 3) + 1))) :
    RR G nc ns m_X1_unjoin 0 [some (.ref l0), some (.int l1), some (.int l2)] [] h Z := by
  refine r_aload_n dX1_unjoin_0 rfl ?_
  refine r_iconst (v := 0) dX1_unjoin_1 (by decide) ?_
  refine r_iload_n dX1_unjoin_2 rfl ?_
  refine r_callV1 (c := 1) (mc := 0) (ms := 0) dX1_unjoin_3 ck_X1_holds iv_X1_holds sl_X1_holds lk_RX1_31 rfl rfl (c2) (by decide) (by decide) (As := [.int 0, .int l1]) rfl rfl (Nat.le_of_ble_eq_true rfl) (Or.inl rfl) (Or.inl rfl) (e1) ?_
  refine r_if_eq 64 dX1_unjoin_6 (by decide) (fun q1 => ?_) (fun q1 => ?_)
  · exact r_return dX1_unjoin_64 rfl (k3 q1)
  · refine r_aload_n dX1_unjoin_9 rfl ?_
    refine r_iconst (v := 1) dX1_unjoin_10 (by decide) ?_
    refine r_iload_n dX1_unjoin_11 rfl ?_
    refine r_callV1 (c := 1) (mc := 0) (ms := 0) dX1_unjoin_12 ck_X1_holds iv_X1_holds sl_X1_holds lk_RX1_31 rfl rfl (c2) (by decide) (by decide) (As := [.int 1, .int l2]) rfl rfl (Nat.le_of_ble_eq_true rfl) (Or.inl rfl) (Or.inl rfl) (e4 q1) ?_
    refine r_if_eq 64 dX1_unjoin_15 (by decide) (fun q2 => ?_) (fun q2 => ?_)
    · exact r_return dX1_unjoin_64 rfl (k5 q1 q2)
    · refine r_aload_n dX1_unjoin_18 rfl ?_
      refine r_getR (c := 1) (k := 2) dX1_unjoin_19 rfl rfl (by decide) fl_RX1_21 (c2) rfl (c6) ?_
      refine r_iconst (v := 0) dX1_unjoin_22 (by decide) ?_
      refine r_aaloadJ 0 dX1_unjoin_23 (c7) (c8 q1 q2) (by decide) (c9) ?_
      refine r_iload_n dX1_unjoin_24 rfl ?_
      refine r_dup2 dX1_unjoin_25 rfl rfl ?_
      refine r_laloadJ (Int32.toNatClampNeg l1) dX1_unjoin_26 (c10) (c11 q1 q2) rfl ?_
      refine r_lconst (v := 1) dX1_unjoin_27 (by decide) ?_
      refine r_iload_n dX1_unjoin_28 rfl ?_
      refine r_lshl dX1_unjoin_29 ?_
      refine r_ldc2 (v := (-1)) dX1_unjoin_30 cn_RX1_49 ?_
      refine r_lxor dX1_unjoin_33 ?_
      refine r_land dX1_unjoin_34 ?_
      refine r_lastoreJ (Int32.toNatClampNeg l1) dX1_unjoin_35 (c10) (c11 q1 q2) rfl ?_
      refine r_aload_n dX1_unjoin_36 rfl ?_
      refine r_getR (c := 1) (k := 2) dX1_unjoin_37 rfl rfl (by decide) fl_RX1_21 (c2) rfl (c6) ?_
      refine r_iconst (v := 1) dX1_unjoin_40 (by decide) ?_
      refine r_aaloadJ 1 dX1_unjoin_41 (c7) (c12 q1 q2) (by decide) (c13) ?_
      refine r_iload_n dX1_unjoin_42 rfl ?_
      refine r_dup2 dX1_unjoin_43 rfl rfl ?_
      refine r_laloadJ (Int32.toNatClampNeg l2) dX1_unjoin_44 (c14) (c15 q1 q2) rfl ?_
      refine r_lconst (v := 1) dX1_unjoin_45 (by decide) ?_
      refine r_iload_n dX1_unjoin_46 rfl ?_
      refine r_lshl dX1_unjoin_47 ?_
      refine r_ldc2 (v := (-1)) dX1_unjoin_48 cn_RX1_49 ?_
      refine r_lxor dX1_unjoin_51 ?_
      refine r_land dX1_unjoin_52 ?_
      refine r_lastoreJ (Int32.toNatClampNeg l2) dX1_unjoin_53 (c14) (c15 q1 q2) rfl ?_
      refine r_aload_n dX1_unjoin_54 rfl ?_
      refine r_dup dX1_unjoin_55 rfl ?_
      refine r_get (c := 1) (k := 3) dX1_unjoin_56 rfl rfl (by decide) fl_RX1_24 (c2) rfl ?_
      refine r_iconst (v := 1) dX1_unjoin_59 (by decide) ?_
      refine r_iadd dX1_unjoin_60 ?_
      refine r_putI (c := 1) (k := 3) dX1_unjoin_61 rfl rfl (by decide) fl_RX1_24 (c2) (Or.inl rfl) (Or.inl rfl) ?_
      exact r_return dX1_unjoin_64 rfl (k16 q1 q2)

set_option maxRecDepth 20000 in
set_option maxHeartbeats 2000000 in
theorem s_X1_clear_0 {G : GG} {nc ns : Nat} {h : PH} {Z : Option Value → PH → Prop} {l0 : Nat}
    (k1 : RR G nc ns m_X1_clear 2 [some (.ref l0), some (.int 0)] [] h Z) :
    RR G nc ns m_X1_clear 0 [some (.ref l0), none] [] h Z := by
  refine r_iconst (v := 0) dX1_clear_0 (by decide) ?_
  refine r_istore_nL [some (.ref l0), some (.int 0)] dX1_clear_1 (by decide) rfl ?_
  exact k1

set_option maxRecDepth 20000 in
set_option maxHeartbeats 2000000 in
theorem s_X1_clear_2 {G : GG} {nc ns : Nat} {h : PH} {Z : Option Value → PH → Prop} {l0 : Nat} {l1 : Int32} {P1 : PH → Prop}
    (c1 : hK h l0 = 11)
    (k2 : (1 < l1) → Z none (sI h l0 3 ((hI h l0 3) + 1)))
    (c3 : (hR h l0 1) ≠ 0)
    (c4 : hK h (hR h l0 1) = 2)
    (c5 : (¬ 1 < l1) → vp_in l1 (hL h (hR h l0 1)))
    (c6 : (hR h l0 2) ≠ 0)
    (c7 : (hK h (hR h l0 2) = 5 ∨ hK h (hR h l0 2) = 6))
    (c8 : (¬ 1 < l1) → vp_in l1 (hL h (hR h l0 2)))
    (c9 : (¬ 1 < l1) → (hR h (hR h l0 2) (Int32.toNatClampNeg l1)) ≠ 0)
    (e10 : (¬ 1 < l1) → Ev G m_J7_fill_d0a16 [.ref (hR h (hR h l0 2) (Int32.toNatClampNeg l1)), .long 0] (sI h (hR h l0 1) (Int32.toNatClampNeg l1) 0) 0 0 (RV P1))
    (k11 : (¬ 1 < l1) → ∀ (h1 : PH), P1 h1 → hN h1 = (hN h) → hS h1 = (hS h) → RR G nc ns m_X1_clear 24 [some (.ref l0), some (.int l1)] [] h1 Z) :
    RR G nc ns m_X1_clear 2 [some (.ref l0), some (.int l1)] [] h Z := by
  refine r_iload_n dX1_clear_2 rfl ?_
  refine r_iconst (v := 1) dX1_clear_3 (by decide) ?_
  refine r_icmp_gt 30 dX1_clear_4 (by decide) (fun q1 => ?_) (fun q1 => ?_)
  · refine r_aload_n dX1_clear_30 rfl ?_
    refine r_dup dX1_clear_31 rfl ?_
    refine r_get (c := 1) (k := 3) dX1_clear_32 rfl rfl (by decide) fl_RX1_24 (c1) rfl ?_
    refine r_iconst (v := 1) dX1_clear_35 (by decide) ?_
    refine r_iadd dX1_clear_36 ?_
    refine r_putI (c := 1) (k := 3) dX1_clear_37 rfl rfl (by decide) fl_RX1_24 (c1) (Or.inl rfl) (Or.inl rfl) ?_
    exact r_return dX1_clear_40 rfl (k2 q1)
  · refine r_aload_n dX1_clear_7 rfl ?_
    refine r_getR (c := 1) (k := 1) dX1_clear_8 rfl rfl (by decide) fl_RX1_15 (c1) rfl (c3) ?_
    refine r_iload_n dX1_clear_11 rfl ?_
    refine r_iconst (v := 0) dX1_clear_12 (by decide) ?_
    refine r_iastoreJ (Int32.toNatClampNeg l1) dX1_clear_13 (c4) (c5 q1) rfl ?_
    refine r_aload_n dX1_clear_14 rfl ?_
    refine r_getR (c := 1) (k := 2) dX1_clear_15 rfl rfl (by decide) fl_RX1_21 (c1) rfl (c6) ?_
    refine r_iload_n dX1_clear_18 rfl ?_
    refine r_aaloadJ (Int32.toNatClampNeg l1) dX1_clear_19 (c7) (c8 q1) rfl (c9 q1) ?_
    refine r_lconst (v := 0) dX1_clear_20 (by decide) ?_
    refine r_callS (mc := 0) (ms := 0) dX1_clear_21 ck_J7_fill_d0a16 sv_J7_fill_d0a16 lk_RX1_51 (by decide) (by decide) (As := [.ref (hR h (hR h l0 2) (Int32.toNatClampNeg l1)), .long 0]) rfl rfl (Nat.le_of_ble_eq_true rfl) (Or.inl rfl) (Or.inl rfl) (e10 q1) ?_
    rintro v1 h1 ⟨rfl, z1⟩ n1 t1
    exact k11 q1 h1 z1 n1 t1

set_option maxRecDepth 20000 in
set_option maxHeartbeats 2000000 in
theorem s_X1_clear_24 {G : GG} {nc ns : Nat} {h : PH} {Z : Option Value → PH → Prop} {l0 : Nat} {l1 : Int32}
    (k1 : RR G nc ns m_X1_clear 2 [some (.ref l0), some (.int (l1 + 1))] [] h Z) :
    RR G nc ns m_X1_clear 24 [some (.ref l0), some (.int l1)] [] h Z := by
  refine r_iincL (v := l1 + 1) [some (.ref l0), some (.int (l1 + 1))] dX1_clear_24 rfl (by decide) rfl rfl ?_
  refine r_goto (tgt := 2) dX1_clear_27 (by decide) ?_
  exact k1

set_option maxRecDepth 20000 in
set_option maxHeartbeats 2000000 in
theorem s_X5_isOneOfTwo_0 {G : GG} {nc ns : Nat} {h : PH} {Z : Option Value → PH → Prop} {l0 : Int32}
    (k1 : (l0 = 0) → Z (some (.int 1)) h)
    (k2 : (¬ l0 = 0) → (¬ l0 = 1) → Z (some (.int 0)) h)
    (k3 : (¬ l0 = 0) → (l0 = 1) → Z (some (.int 1)) h) :
    RR G nc ns m_X5_isOneOfTwo 0 [some (.int l0)] [] h Z := by
  refine r_iload_n dX5_isOneOfTwo_0 rfl ?_
  refine r_if_eq 9 dX5_isOneOfTwo_1 (by decide) (fun q1 => ?_) (fun q1 => ?_)
  · refine r_iconst (v := 1) dX5_isOneOfTwo_9 (by decide) ?_
    refine r_goto (tgt := 14) dX5_isOneOfTwo_10 (by decide) ?_
    exact r_zreturn dX5_isOneOfTwo_14 rfl (by decide) (k1 q1)
  · refine r_iload_n dX5_isOneOfTwo_4 rfl ?_
    refine r_iconst (v := 1) dX5_isOneOfTwo_5 (by decide) ?_
    refine r_icmp_ne 13 dX5_isOneOfTwo_6 (by decide) (fun q2 => ?_) (fun q2 => ?_)
    · refine r_iconst (v := 0) dX5_isOneOfTwo_13 (by decide) ?_
      exact r_zreturn dX5_isOneOfTwo_14 rfl (by decide) (k2 q1 q2)
    · refine r_iconst (v := 1) dX5_isOneOfTwo_9 (by decide) ?_
      refine r_goto (tgt := 14) dX5_isOneOfTwo_10 (by decide) ?_
      exact r_zreturn dX5_isOneOfTwo_14 rfl (by decide) (k3 q1 q2)

set_option maxRecDepth 20000 in
set_option maxHeartbeats 2000000 in
theorem s_X5_contains_0 {G : GG} {nc ns : Nat} {h : PH} {Z : Option Value → PH → Prop} {l0 : Int64} {l2 : Int32}
    (k1 : ((lg_cmp (((Int64.toUInt64 l0 >>> ((Int32.toInt64 l2).toUInt64 &&& Int64.toUInt64 63)).toInt64) &&& 1) 0) = 0) → Z (some (.int 0)) h)
    (k2 : (¬ (lg_cmp (((Int64.toUInt64 l0 >>> ((Int32.toInt64 l2).toUInt64 &&& Int64.toUInt64 63)).toInt64) &&& 1) 0) = 0) → Z (some (.int 1)) h) :
    RR G nc ns m_X5_contains 0 [some (.long l0), none, some (.int l2)] [] h Z := by
  refine r_lload_n dX5_contains_0 rfl ?_
  refine r_iload_n dX5_contains_1 rfl ?_
  refine r_lushr dX5_contains_2 ?_
  refine r_lconst (v := 1) dX5_contains_3 (by decide) ?_
  refine r_land dX5_contains_4 ?_
  refine r_lconst (v := 0) dX5_contains_5 (by decide) ?_
  refine r_lcmp dX5_contains_6 ?_
  refine r_if_eq 14 dX5_contains_7 (by decide) (fun q1 => ?_) (fun q1 => ?_)
  · refine r_iconst (v := 0) dX5_contains_14 (by decide) ?_
    exact r_zreturn dX5_contains_15 rfl (by decide) (k1 q1)
  · refine r_iconst (v := 1) dX5_contains_10 (by decide) ?_
    refine r_goto (tgt := 15) dX5_contains_11 (by decide) ?_
    exact r_zreturn dX5_contains_15 rfl (by decide) (k2 q1)

set_option maxRecDepth 20000 in
set_option maxHeartbeats 2000000 in
theorem s_X5_lowest_0 {G : GG} {nc ns : Nat} {h : PH} {Z : Option Value → PH → Prop} {l0 : Int64} {x1 : Int32}
    (e1 : Ev G m_J13_bitCount_95d88 [.long ((l0 &&& (-l0)) - 1)] h 0 0 (Ret (some (.int x1)) h))
    (k2 : Z (some (.int x1)) h) :
    RR G nc ns m_X5_lowest 0 [some (.long l0), none] [] h Z := by
  refine r_lload_n dX5_lowest_0 rfl ?_
  refine r_lload_n dX5_lowest_1 rfl ?_
  refine r_lneg dX5_lowest_2 ?_
  refine r_land dX5_lowest_3 ?_
  refine r_lconst (v := 1) dX5_lowest_4 (by decide) ?_
  refine r_lsub dX5_lowest_5 ?_
  refine r_callS1 (mc := 0) (ms := 0) dX5_lowest_6 ck_J13_bitCount_95d88 sv_J13_bitCount_95d88 lk_RX5_161 (by decide) (by decide) (As := [.long ((l0 &&& (-l0)) - 1)]) rfl rfl (Nat.le_of_ble_eq_true rfl) (Or.inl rfl) (Or.inl rfl) (e1) ?_
  exact r_ireturn dX5_lowest_9 rfl (k2)

set_option maxRecDepth 20000 in
set_option maxHeartbeats 2000000 in
theorem s_J6_bitCount_0f7a4_0 {G : GG} {nc ns : Nat} {h : PH} {Z : Option Value → PH → Prop} {l0 : Int32}
    (k1 : RR G nc ns m_J6_bitCount_0f7a4 10 [some (.int (l0 - (((Int32.toUInt32 l0 >>> (Int32.toUInt32 1 &&& Int32.toUInt32 31)).toInt32) &&& 1431655765)))] [] h Z) :
    RR G nc ns m_J6_bitCount_0f7a4 0 [some (.int l0)] [] h Z := by
  refine r_iload_n dJ6_bitCount_0f7a4_0 rfl ?_
  refine r_iload_n dJ6_bitCount_0f7a4_1 rfl ?_
  refine r_iconst (v := 1) dJ6_bitCount_0f7a4_2 (by decide) ?_
  refine r_iushr dJ6_bitCount_0f7a4_3 ?_
  refine r_ldcw (v := 1431655765) dJ6_bitCount_0f7a4_4 cn_RJ6_265 ?_
  refine r_iand dJ6_bitCount_0f7a4_7 ?_
  refine r_isub dJ6_bitCount_0f7a4_8 ?_
  refine r_istore_nL [some (.int (l0 - (((Int32.toUInt32 l0 >>> (Int32.toUInt32 1 &&& Int32.toUInt32 31)).toInt32) &&& 1431655765)))] dJ6_bitCount_0f7a4_9 (by decide) rfl ?_
  exact k1

set_option maxRecDepth 20000 in
set_option maxHeartbeats 2000000 in
theorem s_J6_bitCount_0f7a4_10 {G : GG} {nc ns : Nat} {h : PH} {Z : Option Value → PH → Prop} {l0 : Int32}
    (k1 : RR G nc ns m_J6_bitCount_0f7a4 24 [some (.int ((l0 &&& 858993459) + (((Int32.toUInt32 l0 >>> (Int32.toUInt32 2 &&& Int32.toUInt32 31)).toInt32) &&& 858993459)))] [] h Z) :
    RR G nc ns m_J6_bitCount_0f7a4 10 [some (.int l0)] [] h Z := by
  refine r_iload_n dJ6_bitCount_0f7a4_10 rfl ?_
  refine r_ldcw (v := 858993459) dJ6_bitCount_0f7a4_11 cn_RJ6_266 ?_
  refine r_iand dJ6_bitCount_0f7a4_14 ?_
  refine r_iload_n dJ6_bitCount_0f7a4_15 rfl ?_
  refine r_iconst (v := 2) dJ6_bitCount_0f7a4_16 (by decide) ?_
  refine r_iushr dJ6_bitCount_0f7a4_17 ?_
  refine r_ldcw (v := 858993459) dJ6_bitCount_0f7a4_18 cn_RJ6_266 ?_
  refine r_iand dJ6_bitCount_0f7a4_21 ?_
  refine r_iadd dJ6_bitCount_0f7a4_22 ?_
  refine r_istore_nL [some (.int ((l0 &&& 858993459) + (((Int32.toUInt32 l0 >>> (Int32.toUInt32 2 &&& Int32.toUInt32 31)).toInt32) &&& 858993459)))] dJ6_bitCount_0f7a4_23 (by decide) rfl ?_
  exact k1

set_option maxRecDepth 20000 in
set_option maxHeartbeats 2000000 in
theorem s_J6_bitCount_0f7a4_24 {G : GG} {nc ns : Nat} {h : PH} {Z : Option Value → PH → Prop} {l0 : Int32}
    (k1 : RR G nc ns m_J6_bitCount_0f7a4 34 [some (.int ((l0 + (Int32.toUInt32 l0 >>> (Int32.toUInt32 4 &&& Int32.toUInt32 31)).toInt32) &&& 252645135))] [] h Z) :
    RR G nc ns m_J6_bitCount_0f7a4 24 [some (.int l0)] [] h Z := by
  refine r_iload_n dJ6_bitCount_0f7a4_24 rfl ?_
  refine r_iload_n dJ6_bitCount_0f7a4_25 rfl ?_
  refine r_iconst (v := 4) dJ6_bitCount_0f7a4_26 (by decide) ?_
  refine r_iushr dJ6_bitCount_0f7a4_27 ?_
  refine r_iadd dJ6_bitCount_0f7a4_28 ?_
  refine r_ldcw (v := 252645135) dJ6_bitCount_0f7a4_29 cn_RJ6_267 ?_
  refine r_iand dJ6_bitCount_0f7a4_32 ?_
  refine r_istore_nL [some (.int ((l0 + (Int32.toUInt32 l0 >>> (Int32.toUInt32 4 &&& Int32.toUInt32 31)).toInt32) &&& 252645135))] dJ6_bitCount_0f7a4_33 (by decide) rfl ?_
  exact k1

set_option maxRecDepth 20000 in
set_option maxHeartbeats 2000000 in
theorem s_J6_bitCount_0f7a4_34 {G : GG} {nc ns : Nat} {h : PH} {Z : Option Value → PH → Prop} {l0 : Int32}
    (k1 : RR G nc ns m_J6_bitCount_0f7a4 41 [some (.int (l0 + (Int32.toUInt32 l0 >>> (Int32.toUInt32 8 &&& Int32.toUInt32 31)).toInt32))] [] h Z) :
    RR G nc ns m_J6_bitCount_0f7a4 34 [some (.int l0)] [] h Z := by
  refine r_iload_n dJ6_bitCount_0f7a4_34 rfl ?_
  refine r_iload_n dJ6_bitCount_0f7a4_35 rfl ?_
  refine r_bipush (v := 8) dJ6_bitCount_0f7a4_36 (by decide) ?_
  refine r_iushr dJ6_bitCount_0f7a4_38 ?_
  refine r_iadd dJ6_bitCount_0f7a4_39 ?_
  refine r_istore_nL [some (.int (l0 + (Int32.toUInt32 l0 >>> (Int32.toUInt32 8 &&& Int32.toUInt32 31)).toInt32))] dJ6_bitCount_0f7a4_40 (by decide) rfl ?_
  exact k1

set_option maxRecDepth 20000 in
set_option maxHeartbeats 2000000 in
theorem s_J6_bitCount_0f7a4_41 {G : GG} {nc ns : Nat} {h : PH} {Z : Option Value → PH → Prop} {l0 : Int32}
    (k1 : RR G nc ns m_J6_bitCount_0f7a4 48 [some (.int (l0 + (Int32.toUInt32 l0 >>> (Int32.toUInt32 16 &&& Int32.toUInt32 31)).toInt32))] [] h Z) :
    RR G nc ns m_J6_bitCount_0f7a4 41 [some (.int l0)] [] h Z := by
  refine r_iload_n dJ6_bitCount_0f7a4_41 rfl ?_
  refine r_iload_n dJ6_bitCount_0f7a4_42 rfl ?_
  refine r_bipush (v := 16) dJ6_bitCount_0f7a4_43 (by decide) ?_
  refine r_iushr dJ6_bitCount_0f7a4_45 ?_
  refine r_iadd dJ6_bitCount_0f7a4_46 ?_
  refine r_istore_nL [some (.int (l0 + (Int32.toUInt32 l0 >>> (Int32.toUInt32 16 &&& Int32.toUInt32 31)).toInt32))] dJ6_bitCount_0f7a4_47 (by decide) rfl ?_
  exact k1

set_option maxRecDepth 20000 in
set_option maxHeartbeats 2000000 in
theorem s_J6_bitCount_0f7a4_48 {G : GG} {nc ns : Nat} {h : PH} {Z : Option Value → PH → Prop} {l0 : Int32}
    (k1 : Z (some (.int (l0 &&& 63))) h) :
    RR G nc ns m_J6_bitCount_0f7a4 48 [some (.int l0)] [] h Z := by
  refine r_iload_n dJ6_bitCount_0f7a4_48 rfl ?_
  refine r_bipush (v := 63) dJ6_bitCount_0f7a4_49 (by decide) ?_
  refine r_iand dJ6_bitCount_0f7a4_51 ?_
  exact r_ireturn dJ6_bitCount_0f7a4_52 rfl (k1)

set_option maxRecDepth 20000 in
set_option maxHeartbeats 2000000 in
theorem s_J13_bitCount_95d88_0 {G : GG} {nc ns : Nat} {h : PH} {Z : Option Value → PH → Prop} {l0 : Int64}
    (k1 : RR G nc ns m_J13_bitCount_95d88 10 [some (.long (l0 - (((Int64.toUInt64 l0 >>> ((Int32.toInt64 1).toUInt64 &&& Int64.toUInt64 63)).toInt64) &&& 6148914691236517205))), none] [] h Z) :
    RR G nc ns m_J13_bitCount_95d88 0 [some (.long l0), none] [] h Z := by
  refine r_lload_n dJ13_bitCount_95d88_0 rfl ?_
  refine r_lload_n dJ13_bitCount_95d88_1 rfl ?_
  refine r_iconst (v := 1) dJ13_bitCount_95d88_2 (by decide) ?_
  refine r_lushr dJ13_bitCount_95d88_3 ?_
  refine r_ldc2 (v := 6148914691236517205) dJ13_bitCount_95d88_4 cn_RJ13_314 ?_
  refine r_land dJ13_bitCount_95d88_7 ?_
  refine r_lsub dJ13_bitCount_95d88_8 ?_
  refine r_lstore_nL [some (.long (l0 - (((Int64.toUInt64 l0 >>> ((Int32.toInt64 1).toUInt64 &&& Int64.toUInt64 63)).toInt64) &&& 6148914691236517205))), none] dJ13_bitCount_95d88_9 (by decide) rfl ?_
  exact k1

set_option maxRecDepth 20000 in
set_option maxHeartbeats 2000000 in
theorem s_J13_bitCount_95d88_10 {G : GG} {nc ns : Nat} {h : PH} {Z : Option Value → PH → Prop} {l0 : Int64}
    (k1 : RR G nc ns m_J13_bitCount_95d88 24 [some (.long ((l0 &&& 3689348814741910323) + (((Int64.toUInt64 l0 >>> ((Int32.toInt64 2).toUInt64 &&& Int64.toUInt64 63)).toInt64) &&& 3689348814741910323))), none] [] h Z) :
    RR G nc ns m_J13_bitCount_95d88 10 [some (.long l0), none] [] h Z := by
  refine r_lload_n dJ13_bitCount_95d88_10 rfl ?_
  refine r_ldc2 (v := 3689348814741910323) dJ13_bitCount_95d88_11 cn_RJ13_316 ?_
  refine r_land dJ13_bitCount_95d88_14 ?_
  refine r_lload_n dJ13_bitCount_95d88_15 rfl ?_
  refine r_iconst (v := 2) dJ13_bitCount_95d88_16 (by decide) ?_
  refine r_lushr dJ13_bitCount_95d88_17 ?_
  refine r_ldc2 (v := 3689348814741910323) dJ13_bitCount_95d88_18 cn_RJ13_316 ?_
  refine r_land dJ13_bitCount_95d88_21 ?_
  refine r_ladd dJ13_bitCount_95d88_22 ?_
  refine r_lstore_nL [some (.long ((l0 &&& 3689348814741910323) + (((Int64.toUInt64 l0 >>> ((Int32.toInt64 2).toUInt64 &&& Int64.toUInt64 63)).toInt64) &&& 3689348814741910323))), none] dJ13_bitCount_95d88_23 (by decide) rfl ?_
  exact k1

set_option maxRecDepth 20000 in
set_option maxHeartbeats 2000000 in
theorem s_J13_bitCount_95d88_24 {G : GG} {nc ns : Nat} {h : PH} {Z : Option Value → PH → Prop} {l0 : Int64}
    (k1 : RR G nc ns m_J13_bitCount_95d88 34 [some (.long ((l0 + (Int64.toUInt64 l0 >>> ((Int32.toInt64 4).toUInt64 &&& Int64.toUInt64 63)).toInt64) &&& 1085102592571150095)), none] [] h Z) :
    RR G nc ns m_J13_bitCount_95d88 24 [some (.long l0), none] [] h Z := by
  refine r_lload_n dJ13_bitCount_95d88_24 rfl ?_
  refine r_lload_n dJ13_bitCount_95d88_25 rfl ?_
  refine r_iconst (v := 4) dJ13_bitCount_95d88_26 (by decide) ?_
  refine r_lushr dJ13_bitCount_95d88_27 ?_
  refine r_ladd dJ13_bitCount_95d88_28 ?_
  refine r_ldc2 (v := 1085102592571150095) dJ13_bitCount_95d88_29 cn_RJ13_318 ?_
  refine r_land dJ13_bitCount_95d88_32 ?_
  refine r_lstore_nL [some (.long ((l0 + (Int64.toUInt64 l0 >>> ((Int32.toInt64 4).toUInt64 &&& Int64.toUInt64 63)).toInt64) &&& 1085102592571150095)), none] dJ13_bitCount_95d88_33 (by decide) rfl ?_
  exact k1

set_option maxRecDepth 20000 in
set_option maxHeartbeats 2000000 in
theorem s_J13_bitCount_95d88_34 {G : GG} {nc ns : Nat} {h : PH} {Z : Option Value → PH → Prop} {l0 : Int64}
    (k1 : RR G nc ns m_J13_bitCount_95d88 41 [some (.long (l0 + (Int64.toUInt64 l0 >>> ((Int32.toInt64 8).toUInt64 &&& Int64.toUInt64 63)).toInt64)), none] [] h Z) :
    RR G nc ns m_J13_bitCount_95d88 34 [some (.long l0), none] [] h Z := by
  refine r_lload_n dJ13_bitCount_95d88_34 rfl ?_
  refine r_lload_n dJ13_bitCount_95d88_35 rfl ?_
  refine r_bipush (v := 8) dJ13_bitCount_95d88_36 (by decide) ?_
  refine r_lushr dJ13_bitCount_95d88_38 ?_
  refine r_ladd dJ13_bitCount_95d88_39 ?_
  refine r_lstore_nL [some (.long (l0 + (Int64.toUInt64 l0 >>> ((Int32.toInt64 8).toUInt64 &&& Int64.toUInt64 63)).toInt64)), none] dJ13_bitCount_95d88_40 (by decide) rfl ?_
  exact k1

set_option maxRecDepth 20000 in
set_option maxHeartbeats 2000000 in
theorem s_J13_bitCount_95d88_41 {G : GG} {nc ns : Nat} {h : PH} {Z : Option Value → PH → Prop} {l0 : Int64}
    (k1 : RR G nc ns m_J13_bitCount_95d88 48 [some (.long (l0 + (Int64.toUInt64 l0 >>> ((Int32.toInt64 16).toUInt64 &&& Int64.toUInt64 63)).toInt64)), none] [] h Z) :
    RR G nc ns m_J13_bitCount_95d88 41 [some (.long l0), none] [] h Z := by
  refine r_lload_n dJ13_bitCount_95d88_41 rfl ?_
  refine r_lload_n dJ13_bitCount_95d88_42 rfl ?_
  refine r_bipush (v := 16) dJ13_bitCount_95d88_43 (by decide) ?_
  refine r_lushr dJ13_bitCount_95d88_45 ?_
  refine r_ladd dJ13_bitCount_95d88_46 ?_
  refine r_lstore_nL [some (.long (l0 + (Int64.toUInt64 l0 >>> ((Int32.toInt64 16).toUInt64 &&& Int64.toUInt64 63)).toInt64)), none] dJ13_bitCount_95d88_47 (by decide) rfl ?_
  exact k1

set_option maxRecDepth 20000 in
set_option maxHeartbeats 2000000 in
theorem s_J13_bitCount_95d88_48 {G : GG} {nc ns : Nat} {h : PH} {Z : Option Value → PH → Prop} {l0 : Int64}
    (k1 : RR G nc ns m_J13_bitCount_95d88 55 [some (.long (l0 + (Int64.toUInt64 l0 >>> ((Int32.toInt64 32).toUInt64 &&& Int64.toUInt64 63)).toInt64)), none] [] h Z) :
    RR G nc ns m_J13_bitCount_95d88 48 [some (.long l0), none] [] h Z := by
  refine r_lload_n dJ13_bitCount_95d88_48 rfl ?_
  refine r_lload_n dJ13_bitCount_95d88_49 rfl ?_
  refine r_bipush (v := 32) dJ13_bitCount_95d88_50 (by decide) ?_
  refine r_lushr dJ13_bitCount_95d88_52 ?_
  refine r_ladd dJ13_bitCount_95d88_53 ?_
  refine r_lstore_nL [some (.long (l0 + (Int64.toUInt64 l0 >>> ((Int32.toInt64 32).toUInt64 &&& Int64.toUInt64 63)).toInt64)), none] dJ13_bitCount_95d88_54 (by decide) rfl ?_
  exact k1

set_option maxRecDepth 20000 in
set_option maxHeartbeats 2000000 in
theorem s_J13_bitCount_95d88_55 {G : GG} {nc ns : Nat} {h : PH} {Z : Option Value → PH → Prop} {l0 : Int64}
    (k1 : Z (some (.int ((Int64.toInt32 l0) &&& 127))) h) :
    RR G nc ns m_J13_bitCount_95d88 55 [some (.long l0), none] [] h Z := by
  refine r_lload_n dJ13_bitCount_95d88_55 rfl ?_
  refine r_l2i dJ13_bitCount_95d88_56 ?_
  refine r_bipush (v := 127) dJ13_bitCount_95d88_57 (by decide) ?_
  refine r_iand dJ13_bitCount_95d88_59 ?_
  exact r_ireturn dJ13_bitCount_95d88_60 rfl (k1)

set_option maxRecDepth 20000 in
set_option maxHeartbeats 2000000 in
theorem s_J7_fill_d0a16_0 {G : GG} {nc ns : Nat} {h : PH} {Z : Option Value → PH → Prop} {l0 : Nat} {l1 : Int64}
    (c1 : ((ak (hK h l0)).isSome = true ∨ hK h l0 = 1))
    (k2 : RR G nc ns m_J7_fill_d0a16 6 [some (.ref l0), some (.long l1), none, some (.int 0), some (.int (nI (hL h l0)))] [] h Z) :
    RR G nc ns m_J7_fill_d0a16 0 [some (.ref l0), some (.long l1), none, none, none] [] h Z := by
  refine r_iconst (v := 0) dJ7_fill_d0a16_0 (by decide) ?_
  refine r_istore_nL [some (.ref l0), some (.long l1), none, some (.int 0), none] dJ7_fill_d0a16_1 (by decide) rfl ?_
  refine r_aload_n dJ7_fill_d0a16_2 rfl ?_
  refine r_alen dJ7_fill_d0a16_3 (c1) ?_
  refine r_istoreL [some (.ref l0), some (.long l1), none, some (.int 0), some (.int (nI (hL h l0)))] dJ7_fill_d0a16_4 (by decide) rfl ?_
  exact k2

set_option maxRecDepth 20000 in
set_option maxHeartbeats 2000000 in
theorem s_J7_fill_d0a16_6 {G : GG} {nc ns : Nat} {h : PH} {Z : Option Value → PH → Prop} {l0 : Nat} {l1 : Int64} {l3 : Int32} {l4 : Int32}
    (k1 : (l4 ≤ l3) → Z none h)
    (c2 : hK h l0 = 3)
    (c3 : (¬ l4 ≤ l3) → vp_in l3 (hL h l0))
    (k4 : (¬ l4 ≤ l3) → RR G nc ns m_J7_fill_d0a16 6 [some (.ref l0), some (.long l1), none, some (.int (l3 + 1)), some (.int l4)] [] (sJ h l0 (Int32.toNatClampNeg l3) l1) Z) :
    RR G nc ns m_J7_fill_d0a16 6 [some (.ref l0), some (.long l1), none, some (.int l3), some (.int l4)] [] h Z := by
  refine r_iload_n dJ7_fill_d0a16_6 rfl ?_
  refine r_iload dJ7_fill_d0a16_7 rfl ?_
  refine r_icmp_ge 22 dJ7_fill_d0a16_9 (by decide) (fun q1 => ?_) (fun q1 => ?_)
  · exact r_return dJ7_fill_d0a16_22 rfl (k1 q1)
  · refine r_aload_n dJ7_fill_d0a16_12 rfl ?_
    refine r_iload_n dJ7_fill_d0a16_13 rfl ?_
    refine r_lload_n dJ7_fill_d0a16_14 rfl ?_
    refine r_lastoreJ (Int32.toNatClampNeg l3) dJ7_fill_d0a16_15 (c2) (c3 q1) rfl ?_
    refine r_iincL (v := l3 + 1) [some (.ref l0), some (.long l1), none, some (.int (l3 + 1)), some (.int l4)] dJ7_fill_d0a16_16 rfl (by decide) rfl rfl ?_
    refine r_goto (tgt := 6) dJ7_fill_d0a16_19 (by decide) ?_
    exact k4 q1

set_option maxRecDepth 20000 in
set_option maxHeartbeats 2000000 in
theorem s_J7_fill_53178_0 {G : GG} {nc ns : Nat} {h : PH} {Z : Option Value → PH → Prop} {l0 : Nat} {l1 : Int32}
    (c1 : ((ak (hK h l0)).isSome = true ∨ hK h l0 = 1))
    (k2 : RR G nc ns m_J7_fill_53178 5 [some (.ref l0), some (.int l1), some (.int 0), some (.int (nI (hL h l0)))] [] h Z) :
    RR G nc ns m_J7_fill_53178 0 [some (.ref l0), some (.int l1), none, none] [] h Z := by
  refine r_iconst (v := 0) dJ7_fill_53178_0 (by decide) ?_
  refine r_istore_nL [some (.ref l0), some (.int l1), some (.int 0), none] dJ7_fill_53178_1 (by decide) rfl ?_
  refine r_aload_n dJ7_fill_53178_2 rfl ?_
  refine r_alen dJ7_fill_53178_3 (c1) ?_
  refine r_istore_nL [some (.ref l0), some (.int l1), some (.int 0), some (.int (nI (hL h l0)))] dJ7_fill_53178_4 (by decide) rfl ?_
  exact k2

set_option maxRecDepth 20000 in
set_option maxHeartbeats 2000000 in
theorem s_J7_fill_53178_5 {G : GG} {nc ns : Nat} {h : PH} {Z : Option Value → PH → Prop} {l0 : Nat} {l1 : Int32} {l2 : Int32} {l3 : Int32}
    (k1 : (l3 ≤ l2) → Z none h)
    (c2 : hK h l0 = 2)
    (c3 : (¬ l3 ≤ l2) → vp_in l2 (hL h l0))
    (k4 : (¬ l3 ≤ l2) → RR G nc ns m_J7_fill_53178 5 [some (.ref l0), some (.int l1), some (.int (l2 + 1)), some (.int l3)] [] (sI h l0 (Int32.toNatClampNeg l2) l1) Z) :
    RR G nc ns m_J7_fill_53178 5 [some (.ref l0), some (.int l1), some (.int l2), some (.int l3)] [] h Z := by
  refine r_iload_n dJ7_fill_53178_5 rfl ?_
  refine r_iload_n dJ7_fill_53178_6 rfl ?_
  refine r_icmp_ge 20 dJ7_fill_53178_7 (by decide) (fun q1 => ?_) (fun q1 => ?_)
  · exact r_return dJ7_fill_53178_20 rfl (k1 q1)
  · refine r_aload_n dJ7_fill_53178_10 rfl ?_
    refine r_iload_n dJ7_fill_53178_11 rfl ?_
    refine r_iload_n dJ7_fill_53178_12 rfl ?_
    refine r_iastoreJ (Int32.toNatClampNeg l2) dJ7_fill_53178_13 (c2) (c3 q1) rfl ?_
    refine r_iincL (v := l2 + 1) [some (.ref l0), some (.int l1), some (.int (l2 + 1)), some (.int l3)] dJ7_fill_53178_14 rfl (by decide) rfl rfl ?_
    refine r_goto (tgt := 5) dJ7_fill_53178_17 (by decide) ?_
    exact k4 q1
