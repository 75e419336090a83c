set_option maxRecDepth 20000 in
set_option maxHeartbeats 2000000 in
theorem s_X6_node_0 {G : GG} {nc ns : Nat} {h : PH} {Z : Option Value → PH → Prop} {l0 : Nat} {l1 : Int32}
    (c1 : hK h l0 = 16)
    (k2 : (l1 = 0) → (¬ l1 = 0) → (¬ (hI h l0 1) = 50) → (¬ l1 = 0) → Z (some (.int ((hI (sI (sI h l0 3 0) l0 1 ((hI (sI h l0 3 0) l0 1) + 1)) l0 1) - 1))) (sI (sI h l0 3 0) l0 1 ((hI (sI h l0 3 0) l0 1) + 1)))
    (k3 : (l1 = 0) → (¬ l1 = 0) → (¬ (hI h l0 1) = 50) → (l1 = 0) → Z (some (.int ((hI (sI (sI h l0 3 0) l0 0 ((hI (sI h l0 3 0) l0 0) + 1)) l0 0) - 1))) (sI (sI h l0 3 0) l0 0 ((hI (sI h l0 3 0) l0 0) + 1)))
    (k4 : (l1 = 0) → (¬ l1 = 0) → ((hI h l0 1) = 50) → Z (some (.int (-2))) h)
    (k5 : (l1 = 0) → (l1 = 0) → (¬ (hI h l0 0) = 50) → (¬ l1 = 0) → Z (some (.int ((hI (sI (sI h l0 3 0) l0 1 ((hI (sI h l0 3 0) l0 1) + 1)) l0 1) - 1))) (sI (sI h l0 3 0) l0 1 ((hI (sI h l0 3 0) l0 1) + 1)))
    (k6 : (l1 = 0) → (l1 = 0) → (¬ (hI h l0 0) = 50) → (l1 = 0) → Z (some (.int ((hI (sI (sI h l0 3 0) l0 0 ((hI (sI h l0 3 0) l0 0) + 1)) l0 0) - 1))) (sI (sI h l0 3 0) l0 0 ((hI (sI h l0 3 0) l0 0) + 1)))
    (k7 : (l1 = 0) → (l1 = 0) → ((hI h l0 0) = 50) → Z (some (.int (-2))) h)
    (k8 : (¬ l1 = 0) → (l1 = 1) → (¬ l1 = 0) → (¬ (hI h l0 1) = 50) → (¬ l1 = 0) → Z (some (.int ((hI (sI (sI h l0 3 0) l0 1 ((hI (sI h l0 3 0) l0 1) + 1)) l0 1) - 1))) (sI (sI h l0 3 0) l0 1 ((hI (sI h l0 3 0) l0 1) + 1)))
    (k9 : (¬ l1 = 0) → (l1 = 1) → (¬ l1 = 0) → (¬ (hI h l0 1) = 50) → (l1 = 0) → Z (some (.int ((hI (sI (sI h l0 3 0) l0 0 ((hI (sI h l0 3 0) l0 0) + 1)) l0 0) - 1))) (sI (sI h l0 3 0) l0 0 ((hI (sI h l0 3 0) l0 0) + 1)))
    (k10 : (¬ l1 = 0) → (l1 = 1) → (¬ l1 = 0) → ((hI h l0 1) = 50) → Z (some (.int (-2))) h)
    (k11 : (¬ l1 = 0) → (l1 = 1) → (l1 = 0) → (¬ (hI h l0 0) = 50) → (¬ l1 = 0) → Z (some (.int ((hI (sI (sI h l0 3 0) l0 1 ((hI (sI h l0 3 0) l0 1) + 1)) l0 1) - 1))) (sI (sI h l0 3 0) l0 1 ((hI (sI h l0 3 0) l0 1) + 1)))
    (k12 : (¬ l1 = 0) → (l1 = 1) → (l1 = 0) → (¬ (hI h l0 0) = 50) → (l1 = 0) → Z (some (.int ((hI (sI (sI h l0 3 0) l0 0 ((hI (sI h l0 3 0) l0 0) + 1)) l0 0) - 1))) (sI (sI h l0 3 0) l0 0 ((hI (sI h l0 3 0) l0 0) + 1)))
    (k13 : (¬ l1 = 0) → (l1 = 1) → (l1 = 0) → ((hI h l0 0) = 50) → Z (some (.int (-2))) h)
    (k14 : (¬ l1 = 0) → (¬ l1 = 1) → Z (some (.int (-1))) h) :
    RR G nc ns m_X6_node 0 [some (.ref l0), some (.int l1)] [] h Z := by
  refine r_iload_n dX6_node_0 rfl ?_
  refine r_if_eq 11 dX6_node_1 (by decide) (fun q1 => ?_) (fun q1 => ?_)
  · refine r_iload_n dX6_node_11 rfl ?_
    refine r_if_ne 22 dX6_node_12 (by decide) (fun q2 => ?_) (fun q2 => ?_)
    · refine r_aload_n dX6_node_22 rfl ?_
      refine r_get (c := 6) (k := 1) dX6_node_23 rfl rfl (by decide) fl_RX6_129 (c1) rfl ?_
      refine r_bipush (v := 50) dX6_node_26 (by decide) ?_
      refine r_icmp_ne 34 dX6_node_28 (by decide) (fun q3 => ?_) (fun q3 => ?_)
      · refine r_aload_n dX6_node_34 rfl ?_
        refine r_iconst (v := 0) dX6_node_35 (by decide) ?_
        refine r_putI (c := 6) (k := 3) dX6_node_36 rfl rfl (by decide) fl_RX6_122 (c1) (Or.inl rfl) (Or.inr ⟨rfl, by decide⟩) ?_
        refine r_iload_n dX6_node_39 rfl ?_
        refine r_if_ne 60 dX6_node_40 (by decide) (fun q4 => ?_) (fun q4 => ?_)
        · refine r_aload_n dX6_node_60 rfl ?_
          refine r_dup dX6_node_61 rfl ?_
          refine r_get (c := 6) (k := 1) dX6_node_62 rfl rfl (by decide) fl_RX6_129 (c1) rfl ?_
          refine r_iconst (v := 1) dX6_node_65 (by decide) ?_
          refine r_iadd dX6_node_66 ?_
          refine r_putI (c := 6) (k := 1) dX6_node_67 rfl rfl (by decide) fl_RX6_129 (c1) (Or.inl rfl) (Or.inl rfl) ?_
          refine r_aload_n dX6_node_70 rfl ?_
          refine r_get (c := 6) (k := 1) dX6_node_71 rfl rfl (by decide) fl_RX6_129 (c1) rfl ?_
          refine r_iconst (v := 1) dX6_node_74 (by decide) ?_
          refine r_isub dX6_node_75 ?_
          exact r_ireturn dX6_node_76 rfl (k2 q1 q2 q3 q4)
        · refine r_aload_n dX6_node_43 rfl ?_
          refine r_dup dX6_node_44 rfl ?_
          refine r_get (c := 6) (k := 0) dX6_node_45 rfl rfl (by decide) fl_RX6_126 (c1) rfl ?_
          refine r_iconst (v := 1) dX6_node_48 (by decide) ?_
          refine r_iadd dX6_node_49 ?_
          refine r_putI (c := 6) (k := 0) dX6_node_50 rfl rfl (by decide) fl_RX6_126 (c1) (Or.inl rfl) (Or.inl rfl) ?_
          refine r_aload_n dX6_node_53 rfl ?_
          refine r_get (c := 6) (k := 0) dX6_node_54 rfl rfl (by decide) fl_RX6_126 (c1) rfl ?_
          refine r_iconst (v := 1) dX6_node_57 (by decide) ?_
          refine r_isub dX6_node_58 ?_
          exact r_ireturn dX6_node_59 rfl (k3 q1 q2 q3 q4)
      · refine r_bipush (v := (-2)) dX6_node_31 (by decide) ?_
        exact r_ireturn dX6_node_33 rfl (k4 q1 q2 q3)
    · refine r_aload_n dX6_node_15 rfl ?_
      refine r_get (c := 6) (k := 0) dX6_node_16 rfl rfl (by decide) fl_RX6_126 (c1) rfl ?_
      refine r_goto (tgt := 26) dX6_node_19 (by decide) ?_
      refine r_bipush (v := 50) dX6_node_26 (by decide) ?_
      refine r_icmp_ne 34 dX6_node_28 (by decide) (fun q5 => ?_) (fun q5 => ?_)
      · refine r_aload_n dX6_node_34 rfl ?_
        refine r_iconst (v := 0) dX6_node_35 (by decide) ?_
        refine r_putI (c := 6) (k := 3) dX6_node_36 rfl rfl (by decide) fl_RX6_122 (c1) (Or.inl rfl) (Or.inr ⟨rfl, by decide⟩) ?_
        refine r_iload_n dX6_node_39 rfl ?_
        refine r_if_ne 60 dX6_node_40 (by decide) (fun q6 => ?_) (fun q6 => ?_)
        · refine r_aload_n dX6_node_60 rfl ?_
          refine r_dup dX6_node_61 rfl ?_
          refine r_get (c := 6) (k := 1) dX6_node_62 rfl rfl (by decide) fl_RX6_129 (c1) rfl ?_
          refine r_iconst (v := 1) dX6_node_65 (by decide) ?_
          refine r_iadd dX6_node_66 ?_
          refine r_putI (c := 6) (k := 1) dX6_node_67 rfl rfl (by decide) fl_RX6_129 (c1) (Or.inl rfl) (Or.inl rfl) ?_
          refine r_aload_n dX6_node_70 rfl ?_
          refine r_get (c := 6) (k := 1) dX6_node_71 rfl rfl (by decide) fl_RX6_129 (c1) rfl ?_
          refine r_iconst (v := 1) dX6_node_74 (by decide) ?_
          refine r_isub dX6_node_75 ?_
          exact r_ireturn dX6_node_76 rfl (k5 q1 q2 q5 q6)
        · refine r_aload_n dX6_node_43 rfl ?_
          refine r_dup dX6_node_44 rfl ?_
          refine r_get (c := 6) (k := 0) dX6_node_45 rfl rfl (by decide) fl_RX6_126 (c1) rfl ?_
          refine r_iconst (v := 1) dX6_node_48 (by decide) ?_
          refine r_iadd dX6_node_49 ?_
          refine r_putI (c := 6) (k := 0) dX6_node_50 rfl rfl (by decide) fl_RX6_126 (c1) (Or.inl rfl) (Or.inl rfl) ?_
          refine r_aload_n dX6_node_53 rfl ?_
          refine r_get (c := 6) (k := 0) dX6_node_54 rfl rfl (by decide) fl_RX6_126 (c1) rfl ?_
          refine r_iconst (v := 1) dX6_node_57 (by decide) ?_
          refine r_isub dX6_node_58 ?_
          exact r_ireturn dX6_node_59 rfl (k6 q1 q2 q5 q6)
      · refine r_bipush (v := (-2)) dX6_node_31 (by decide) ?_
        exact r_ireturn dX6_node_33 rfl (k7 q1 q2 q5)
  · refine r_iload_n dX6_node_4 rfl ?_
    refine r_iconst (v := 1) dX6_node_5 (by decide) ?_
    refine r_icmp_eq 11 dX6_node_6 (by decide) (fun q7 => ?_) (fun q7 => ?_)
    · refine r_iload_n dX6_node_11 rfl ?_
      refine r_if_ne 22 dX6_node_12 (by decide) (fun q8 => ?_) (fun q8 => ?_)
      · refine r_aload_n dX6_node_22 rfl ?_
        refine r_get (c := 6) (k := 1) dX6_node_23 rfl rfl (by decide) fl_RX6_129 (c1) rfl ?_
        refine r_bipush (v := 50) dX6_node_26 (by decide) ?_
        refine r_icmp_ne 34 dX6_node_28 (by decide) (fun q9 => ?_) (fun q9 => ?_)
        · refine r_aload_n dX6_node_34 rfl ?_
          refine r_iconst (v := 0) dX6_node_35 (by decide) ?_
          refine r_putI (c := 6) (k := 3) dX6_node_36 rfl rfl (by decide) fl_RX6_122 (c1) (Or.inl rfl) (Or.inr ⟨rfl, by decide⟩) ?_
          refine r_iload_n dX6_node_39 rfl ?_
          refine r_if_ne 60 dX6_node_40 (by decide) (fun q10 => ?_) (fun q10 => ?_)
          · refine r_aload_n dX6_node_60 rfl ?_
            refine r_dup dX6_node_61 rfl ?_
            refine r_get (c := 6) (k := 1) dX6_node_62 rfl rfl (by decide) fl_RX6_129 (c1) rfl ?_
            refine r_iconst (v := 1) dX6_node_65 (by decide) ?_
            refine r_iadd dX6_node_66 ?_
            refine r_putI (c := 6) (k := 1) dX6_node_67 rfl rfl (by decide) fl_RX6_129 (c1) (Or.inl rfl) (Or.inl rfl) ?_
            refine r_aload_n dX6_node_70 rfl ?_
            refine r_get (c := 6) (k := 1) dX6_node_71 rfl rfl (by decide) fl_RX6_129 (c1) rfl ?_
            refine r_iconst (v := 1) dX6_node_74 (by decide) ?_
            refine r_isub dX6_node_75 ?_
            exact r_ireturn dX6_node_76 rfl (k8 q1 q7 q8 q9 q10)
          · refine r_aload_n dX6_node_43 rfl ?_
            refine r_dup dX6_node_44 rfl ?_
            refine r_get (c := 6) (k := 0) dX6_node_45 rfl rfl (by decide) fl_RX6_126 (c1) rfl ?_
            refine r_iconst (v := 1) dX6_node_48 (by decide) ?_
            refine r_iadd dX6_node_49 ?_
            refine r_putI (c := 6) (k := 0) dX6_node_50 rfl rfl (by decide) fl_RX6_126 (c1) (Or.inl rfl) (Or.inl rfl) ?_
            refine r_aload_n dX6_node_53 rfl ?_
            refine r_get (c := 6) (k := 0) dX6_node_54 rfl rfl (by decide) fl_RX6_126 (c1) rfl ?_
            refine r_iconst (v := 1) dX6_node_57 (by decide) ?_
            refine r_isub dX6_node_58 ?_
            exact r_ireturn dX6_node_59 rfl (k9 q1 q7 q8 q9 q10)
        · refine r_bipush (v := (-2)) dX6_node_31 (by decide) ?_
          exact r_ireturn dX6_node_33 rfl (k10 q1 q7 q8 q9)
      · refine r_aload_n dX6_node_15 rfl ?_
        refine r_get (c := 6) (k := 0) dX6_node_16 rfl rfl (by decide) fl_RX6_126 (c1) rfl ?_
        refine r_goto (tgt := 26) dX6_node_19 (by decide) ?_
        refine r_bipush (v := 50) dX6_node_26 (by decide) ?_
        refine r_icmp_ne 34 dX6_node_28 (by decide) (fun q11 => ?_) (fun q11 => ?_)
        · refine r_aload_n dX6_node_34 rfl ?_
          refine r_iconst (v := 0) dX6_node_35 (by decide) ?_
          refine r_putI (c := 6) (k := 3) dX6_node_36 rfl rfl (by decide) fl_RX6_122 (c1) (Or.inl rfl) (Or.inr ⟨rfl, by decide⟩) ?_
          refine r_iload_n dX6_node_39 rfl ?_
          refine r_if_ne 60 dX6_node_40 (by decide) (fun q12 => ?_) (fun q12 => ?_)
          · refine r_aload_n dX6_node_60 rfl ?_
            refine r_dup dX6_node_61 rfl ?_
            refine r_get (c := 6) (k := 1) dX6_node_62 rfl rfl (by decide) fl_RX6_129 (c1) rfl ?_
            refine r_iconst (v := 1) dX6_node_65 (by decide) ?_
            refine r_iadd dX6_node_66 ?_
            refine r_putI (c := 6) (k := 1) dX6_node_67 rfl rfl (by decide) fl_RX6_129 (c1) (Or.inl rfl) (Or.inl rfl) ?_
            refine r_aload_n dX6_node_70 rfl ?_
            refine r_get (c := 6) (k := 1) dX6_node_71 rfl rfl (by decide) fl_RX6_129 (c1) rfl ?_
            refine r_iconst (v := 1) dX6_node_74 (by decide) ?_
            refine r_isub dX6_node_75 ?_
            exact r_ireturn dX6_node_76 rfl (k11 q1 q7 q8 q11 q12)
          · refine r_aload_n dX6_node_43 rfl ?_
            refine r_dup dX6_node_44 rfl ?_
            refine r_get (c := 6) (k := 0) dX6_node_45 rfl rfl (by decide) fl_RX6_126 (c1) rfl ?_
            refine r_iconst (v := 1) dX6_node_48 (by decide) ?_
            refine r_iadd dX6_node_49 ?_
            refine r_putI (c := 6) (k := 0) dX6_node_50 rfl rfl (by decide) fl_RX6_126 (c1) (Or.inl rfl) (Or.inl rfl) ?_
            refine r_aload_n dX6_node_53 rfl ?_
            refine r_get (c := 6) (k := 0) dX6_node_54 rfl rfl (by decide) fl_RX6_126 (c1) rfl ?_
            refine r_iconst (v := 1) dX6_node_57 (by decide) ?_
            refine r_isub dX6_node_58 ?_
            exact r_ireturn dX6_node_59 rfl (k12 q1 q7 q8 q11 q12)
        · refine r_bipush (v := (-2)) dX6_node_31 (by decide) ?_
          exact r_ireturn dX6_node_33 rfl (k13 q1 q7 q8 q11)
    · refine r_iconst (v := (-1)) dX6_node_9 (by decide) ?_
      exact r_ireturn dX6_node_10 rfl (k14 q1 q7)

set_option maxRecDepth 20000 in
set_option maxHeartbeats 2000000 in
theorem s_X6_edge_0 {G : GG} {nc ns : Nat} {h : PH} {Z : Option Value → PH → Prop} {l0 : Nat} {l1 : Int32} {l2 : Int32} {l3 : Int32} {x1 : Int32} {x2 : Int32}
    (e1 : Ev G m_X6_isNode [.ref l0, .int 0, .int l1] h 0 0 (Ret (some (.int x1)) h))
    (c2 : hK h l0 = 16)
    (k3 : (x1 = 0) → Z (some (.int (-1))) h)
    (e4 : (¬ x1 = 0) → Ev G m_X6_isNode [.ref l0, .int 1, .int l2] h 0 0 (Ret (some (.int x2)) h))
    (c5 : (hR h l0 2) ≠ 0)
    (c6 : hK h (hR h l0 2) = 4)
    (c7 : (¬ x1 = 0) → (¬ x2 = 0) → vp_in ((50 * l1) + l2) (hL h (hR h l0 2)))
    (c8 : (¬ x1 = 0) → (¬ x2 = 0) → ((hI h (hR h l0 2) (Int32.toNatClampNeg ((50 * l1) + l2))) = l3) → (l3 = 0 ∨ l3 = 1))
    (k9 : (¬ x1 = 0) → (¬ x2 = 0) → ((hI h (hR h l0 2) (Int32.toNatClampNeg ((50 * l1) + l2))) = l3) → ((hI (sI h (hR h l0 2) (Int32.toNatClampNeg ((50 * l1) + l2)) l3) l0 3) = 0) → Z (some (.int 0)) (sI (sI h (hR h l0 2) (Int32.toNatClampNeg ((50 * l1) + l2)) l3) l0 3 0))
    (k10 : (¬ x1 = 0) → (¬ x2 = 0) → ((hI h (hR h l0 2) (Int32.toNatClampNeg ((50 * l1) + l2))) = l3) → (¬ (hI (sI h (hR h l0 2) (Int32.toNatClampNeg ((50 * l1) + l2)) l3) l0 3) = 0) → Z (some (.int 0)) (sI (sI h (hR h l0 2) (Int32.toNatClampNeg ((50 * l1) + l2)) l3) l0 3 1))
    (c11 : (¬ x1 = 0) → (¬ x2 = 0) → (¬ (hI h (hR h l0 2) (Int32.toNatClampNeg ((50 * l1) + l2))) = l3) → (l3 = 0 ∨ l3 = 1))
    (k12 : (¬ x1 = 0) → (¬ x2 = 0) → (¬ (hI h (hR h l0 2) (Int32.toNatClampNeg ((50 * l1) + l2))) = l3) → ((hI (sI h (hR h l0 2) (Int32.toNatClampNeg ((50 * l1) + l2)) l3) l0 3) = 0) → Z (some (.int 1)) (sI (sI h (hR h l0 2) (Int32.toNatClampNeg ((50 * l1) + l2)) l3) l0 3 0))
    (k13 : (¬ x1 = 0) → (¬ x2 = 0) → (¬ (hI h (hR h l0 2) (Int32.toNatClampNeg ((50 * l1) + l2))) = l3) → (¬ (hI (sI h (hR h l0 2) (Int32.toNatClampNeg ((50 * l1) + l2)) l3) l0 3) = 0) → Z (some (.int 1)) (sI (sI h (hR h l0 2) (Int32.toNatClampNeg ((50 * l1) + l2)) l3) l0 3 0))
    (k14 : (¬ x1 = 0) → (x2 = 0) → Z (some (.int (-1))) h) :
    RR G nc ns m_X6_edge 0 [some (.ref l0), some (.int l1), some (.int l2), some (.int l3), none] [] h Z := by
  refine r_aload_n dX6_edge_0 rfl ?_
  refine r_iconst (v := 0) dX6_edge_1 (by decide) ?_
  refine r_iload_n dX6_edge_2 rfl ?_
  refine r_callV1 (c := 6) (mc := 0) (ms := 0) dX6_edge_3 ck_X6_isNode iv_X6_isNode sl_X6_isNode lk_RX6_161 rfl rfl (c2) (by decide) (by decide) (As := [.int 0, .int l1]) rfl rfl (Nat.le_of_ble_eq_true rfl) (Or.inl rfl) (Or.inl rfl) (e1) ?_
  refine r_if_eq 18 dX6_edge_6 (by decide) (fun q1 => ?_) (fun q1 => ?_)
  · refine r_iconst (v := (-1)) dX6_edge_18 (by decide) ?_
    exact r_ireturn dX6_edge_19 rfl (k3 q1)
  · refine r_aload_n dX6_edge_9 rfl ?_
    refine r_iconst (v := 1) dX6_edge_10 (by decide) ?_
    refine r_iload_n dX6_edge_11 rfl ?_
    refine r_callV1 (c := 6) (mc := 0) (ms := 0) dX6_edge_12 ck_X6_isNode iv_X6_isNode sl_X6_isNode lk_RX6_161 rfl rfl (c2) (by decide) (by decide) (As := [.int 1, .int l2]) rfl rfl (Nat.le_of_ble_eq_true rfl) (Or.inl rfl) (Or.inl rfl) (e4 q1) ?_
    refine r_if_ne 20 dX6_edge_15 (by decide) (fun q2 => ?_) (fun q2 => ?_)
    · refine r_aload_n dX6_edge_20 rfl ?_
      refine r_getR (c := 6) (k := 2) dX6_edge_21 rfl rfl (by decide) fl_RX6_7 (c2) rfl (c5) ?_
      refine r_bipush (v := 50) dX6_edge_24 (by decide) ?_
      refine r_iload_n dX6_edge_26 rfl ?_
      refine r_imul dX6_edge_27 ?_
      refine r_iload_n dX6_edge_28 rfl ?_
      refine r_iadd dX6_edge_29 ?_
      refine r_baloadJ (Int32.toNatClampNeg ((50 * l1) + l2)) dX6_edge_30 (c6) (c7 q1 q2) rfl ?_
      refine r_iload_n dX6_edge_31 rfl ?_
      refine r_icmp_eq 39 dX6_edge_32 (by decide) (fun q3 => ?_) (fun q3 => ?_)
      · refine r_iconst (v := 0) dX6_edge_39 (by decide) ?_
        refine r_istoreL [some (.ref l0), some (.int l1), some (.int l2), some (.int l3), some (.int 0)] dX6_edge_40 (by decide) rfl ?_
        refine r_aload_n dX6_edge_42 rfl ?_
        refine r_getR (c := 6) (k := 2) dX6_edge_43 rfl rfl (by decide) fl_RX6_7 (c2) rfl (c5) ?_
        refine r_bipush (v := 50) dX6_edge_46 (by decide) ?_
        refine r_iload_n dX6_edge_48 rfl ?_
        refine r_imul dX6_edge_49 ?_
        refine r_iload_n dX6_edge_50 rfl ?_
        refine r_iadd dX6_edge_51 ?_
        refine r_iload_n dX6_edge_52 rfl ?_
        refine r_bastoreJ (Int32.toNatClampNeg ((50 * l1) + l2)) dX6_edge_53 (c6) (c7 q1 q2) rfl (c8 q1 q2 q3) ?_
        refine r_aload_n dX6_edge_54 rfl ?_
        refine r_aload_n dX6_edge_55 rfl ?_
        refine r_get (c := 6) (k := 3) dX6_edge_56 rfl rfl (by decide) fl_RX6_122 (c2) rfl ?_
        refine r_if_eq 71 dX6_edge_59 (by decide) (fun q4 => ?_) (fun q4 => ?_)
        · refine r_iconst (v := 0) dX6_edge_71 (by decide) ?_
          refine r_putI (c := 6) (k := 3) dX6_edge_72 rfl rfl (by decide) fl_RX6_122 (c2) (Or.inl rfl) (Or.inr ⟨rfl, by decide⟩) ?_
          refine r_iload dX6_edge_75 rfl ?_
          refine r_if_eq_t (tgt := 84) dX6_edge_77 (by decide) (by decide) ?_
          refine r_iconst (v := 0) dX6_edge_84 (by decide) ?_
          exact r_ireturn dX6_edge_85 rfl (k9 q1 q2 q3 q4)
        · refine r_iload dX6_edge_62 rfl ?_
          refine r_if_ne_f (tgt := 71) dX6_edge_64 (by decide) (by decide) ?_
          refine r_iconst (v := 1) dX6_edge_67 (by decide) ?_
          refine r_goto (tgt := 72) dX6_edge_68 (by decide) ?_
          refine r_putI (c := 6) (k := 3) dX6_edge_72 rfl rfl (by decide) fl_RX6_122 (c2) (Or.inl rfl) (Or.inr ⟨rfl, by decide⟩) ?_
          refine r_iload dX6_edge_75 rfl ?_
          refine r_if_eq_t (tgt := 84) dX6_edge_77 (by decide) (by decide) ?_
          refine r_iconst (v := 0) dX6_edge_84 (by decide) ?_
          exact r_ireturn dX6_edge_85 rfl (k10 q1 q2 q3 q4)
      · refine r_iconst (v := 1) dX6_edge_35 (by decide) ?_
        refine r_goto (tgt := 40) dX6_edge_36 (by decide) ?_
        refine r_istoreL [some (.ref l0), some (.int l1), some (.int l2), some (.int l3), some (.int 1)] dX6_edge_40 (by decide) rfl ?_
        refine r_aload_n dX6_edge_42 rfl ?_
        refine r_getR (c := 6) (k := 2) dX6_edge_43 rfl rfl (by decide) fl_RX6_7 (c2) rfl (c5) ?_
        refine r_bipush (v := 50) dX6_edge_46 (by decide) ?_
        refine r_iload_n dX6_edge_48 rfl ?_
        refine r_imul dX6_edge_49 ?_
        refine r_iload_n dX6_edge_50 rfl ?_
        refine r_iadd dX6_edge_51 ?_
        refine r_iload_n dX6_edge_52 rfl ?_
        refine r_bastoreJ (Int32.toNatClampNeg ((50 * l1) + l2)) dX6_edge_53 (c6) (c7 q1 q2) rfl (c11 q1 q2 q3) ?_
        refine r_aload_n dX6_edge_54 rfl ?_
        refine r_aload_n dX6_edge_55 rfl ?_
        refine r_get (c := 6) (k := 3) dX6_edge_56 rfl rfl (by decide) fl_RX6_122 (c2) rfl ?_
        refine r_if_eq 71 dX6_edge_59 (by decide) (fun q5 => ?_) (fun q5 => ?_)
        · refine r_iconst (v := 0) dX6_edge_71 (by decide) ?_
          refine r_putI (c := 6) (k := 3) dX6_edge_72 rfl rfl (by decide) fl_RX6_122 (c2) (Or.inl rfl) (Or.inr ⟨rfl, by decide⟩) ?_
          refine r_iload dX6_edge_75 rfl ?_
          refine r_if_eq_f (tgt := 84) dX6_edge_77 (by decide) (by decide) ?_
          refine r_iconst (v := 1) dX6_edge_80 (by decide) ?_
          refine r_goto (tgt := 85) dX6_edge_81 (by decide) ?_
          exact r_ireturn dX6_edge_85 rfl (k12 q1 q2 q3 q5)
        · refine r_iload dX6_edge_62 rfl ?_
          refine r_if_ne_t (tgt := 71) dX6_edge_64 (by decide) (by decide) ?_
          refine r_iconst (v := 0) dX6_edge_71 (by decide) ?_
          refine r_putI (c := 6) (k := 3) dX6_edge_72 rfl rfl (by decide) fl_RX6_122 (c2) (Or.inl rfl) (Or.inr ⟨rfl, by decide⟩) ?_
          refine r_iload dX6_edge_75 rfl ?_
          refine r_if_eq_f (tgt := 84) dX6_edge_77 (by decide) (by decide) ?_
          refine r_iconst (v := 1) dX6_edge_80 (by decide) ?_
          refine r_goto (tgt := 85) dX6_edge_81 (by decide) ?_
          exact r_ireturn dX6_edge_85 rfl (k13 q1 q2 q3 q5)
    · refine r_iconst (v := (-1)) dX6_edge_18 (by decide) ?_
      exact r_ireturn dX6_edge_19 rfl (k14 q1 q2)

set_option maxRecDepth 20000 in
set_option maxHeartbeats 2000000 in
theorem s_X6_edgesMany_0 {G : GG} {nc ns : Nat} {h : PH} {Z : Option Value → PH → Prop} {l0 : Nat}
    (k1 : RR G nc ns m_X6_edgesMany 4 [some (.ref l0), some (.int 0), some (.int 0)] [] h Z) :
    RR G nc ns m_X6_edgesMany 0 [some (.ref l0), none, none] [] h Z := by
  refine r_iconst (v := 0) dX6_edgesMany_0 (by decide) ?_
  refine r_istore_nL [some (.ref l0), some (.int 0), none] dX6_edgesMany_1 (by decide) rfl ?_
  refine r_iconst (v := 0) dX6_edgesMany_2 (by decide) ?_
  refine r_istore_nL [some (.ref l0), some (.int 0), some (.int 0)] dX6_edgesMany_3 (by decide) rfl ?_
  exact k1

set_option maxRecDepth 20000 in
set_option maxHeartbeats 2000000 in
theorem s_X6_edgesMany_4 {G : GG} {nc ns : Nat} {h : PH} {Z : Option Value → PH → Prop} {l0 : Nat} {l1 : Int32} {l2 : Int32}
    (k1 : (2500 ≤ l2) → Z (some (.int l1)) h)
    (c2 : hK h l0 = 16)
    (c3 : (hR h l0 2) ≠ 0)
    (c4 : hK h (hR h l0 2) = 4)
    (c5 : (¬ 2500 ≤ l2) → vp_in l2 (hL h (hR h l0 2)))
    (k6 : (¬ 2500 ≤ l2) → ((hI h (hR h l0 2) (Int32.toNatClampNeg l2)) = 0) → RR G nc ns m_X6_edgesMany 4 [some (.ref l0), some (.int l1), some (.int (l2 + 1))] [] h Z)
    (k7 : (¬ 2500 ≤ l2) → (¬ (hI h (hR h l0 2) (Int32.toNatClampNeg l2)) = 0) → RR G nc ns m_X6_edgesMany 4 [some (.ref l0), some (.int (l1 + 1)), some (.int (l2 + 1))] [] h Z) :
    RR G nc ns m_X6_edgesMany 4 [some (.ref l0), some (.int l1), some (.int l2)] [] h Z := by
  refine r_iload_n dX6_edgesMany_4 rfl ?_
  refine r_sipush (v := 2500) dX6_edgesMany_5 (by decide) ?_
  refine r_icmp_ge 34 dX6_edgesMany_8 (by decide) (fun q1 => ?_) (fun q1 => ?_)
  · refine r_iload_n dX6_edgesMany_34 rfl ?_
    exact r_ireturn dX6_edgesMany_35 rfl (k1 q1)
  · refine r_aload_n dX6_edgesMany_11 rfl ?_
    refine r_getR (c := 6) (k := 2) dX6_edgesMany_12 rfl rfl (by decide) fl_RX6_7 (c2) rfl (c3) ?_
    refine r_iload_n dX6_edgesMany_15 rfl ?_
    refine r_baloadJ (Int32.toNatClampNeg l2) dX6_edgesMany_16 (c4) (c5 q1) rfl ?_
    refine r_if_eq 26 dX6_edgesMany_17 (by decide) (fun q2 => ?_) (fun q2 => ?_)
    · refine r_iload_n dX6_edgesMany_26 rfl ?_
      refine r_istore_nL [some (.ref l0), some (.int l1), some (.int l2)] dX6_edgesMany_27 (by decide) rfl ?_
      refine r_iincL (v := l2 + 1) [some (.ref l0), some (.int l1), some (.int (l2 + 1))] dX6_edgesMany_28 rfl (by decide) rfl rfl ?_
      refine r_goto (tgt := 4) dX6_edgesMany_31 (by decide) ?_
      exact k6 q1 q2
    · refine r_iload_n dX6_edgesMany_20 rfl ?_
      refine r_iconst (v := 1) dX6_edgesMany_21 (by decide) ?_
      refine r_iadd dX6_edgesMany_22 ?_
      refine r_goto (tgt := 27) dX6_edgesMany_23 (by decide) ?_
      refine r_istore_nL [some (.ref l0), some (.int (l1 + 1)), some (.int l2)] dX6_edgesMany_27 (by decide) rfl ?_
      refine r_iincL (v := l2 + 1) [some (.ref l0), some (.int (l1 + 1)), some (.int (l2 + 1))] dX6_edgesMany_28 rfl (by decide) rfl rfl ?_
      refine r_goto (tgt := 4) dX6_edgesMany_31 (by decide) ?_
      exact k7 q1 q2

set_option maxRecDepth 20000 in
set_option maxHeartbeats 2000000 in
theorem s_X6_inPart_0 {G : GG} {nc ns : Nat} {h : PH} {Z : Option Value → PH → Prop} {l0 : Nat} {l1 : Int32}
    (k1 : RR G nc ns m_X6_inPart 4 [some (.ref l0), some (.int l1), some (.int 0), some (.int 0)] [] h Z) :
    RR G nc ns m_X6_inPart 0 [some (.ref l0), some (.int l1), none, none] [] h Z := by
  refine r_iconst (v := 0) dX6_inPart_0 (by decide) ?_
  refine r_istore_nL [some (.ref l0), some (.int l1), some (.int 0), none] dX6_inPart_1 (by decide) rfl ?_
  refine r_iconst (v := 0) dX6_inPart_2 (by decide) ?_
  refine r_istore_nL [some (.ref l0), some (.int l1), some (.int 0), some (.int 0)] dX6_inPart_3 (by decide) rfl ?_
  exact k1

set_option maxRecDepth 20000 in
set_option maxHeartbeats 2000000 in
theorem s_X6_inPart_4 {G : GG} {nc ns : Nat} {h : PH} {Z : Option Value → PH → Prop} {l0 : Nat} {l1 : Int32} {l2 : Int32} {l3 : Int32}
    (c1 : hK h l0 = 16)
    (k2 : ((hI h l0 0) ≤ l3) → RR G nc ns m_X6_inPart 38 [some (.ref l0), some (.int l1), some (.int l2), some (.int 0)] [] h Z)
    (c3 : (hR h l0 9) ≠ 0)
    (c4 : hK h (hR h l0 9) = 2)
    (c5 : (¬ (hI h l0 0) ≤ l3) → vp_in l3 (hL h (hR h l0 9)))
    (k6 : (¬ (hI h l0 0) ≤ l3) → (¬ (hI h (hR h l0 9) (Int32.toNatClampNeg l3)) = l1) → RR G nc ns m_X6_inPart 4 [some (.ref l0), some (.int l1), some (.int l2), some (.int (l3 + 1))] [] h Z)
    (k7 : (¬ (hI h l0 0) ≤ l3) → ((hI h (hR h l0 9) (Int32.toNatClampNeg l3)) = l1) → RR G nc ns m_X6_inPart 4 [some (.ref l0), some (.int l1), some (.int (l2 + 1)), some (.int (l3 + 1))] [] h Z) :
    RR G nc ns m_X6_inPart 4 [some (.ref l0), some (.int l1), some (.int l2), some (.int l3)] [] h Z := by
  refine r_iload_n dX6_inPart_4 rfl ?_
  refine r_aload_n dX6_inPart_5 rfl ?_
  refine r_get (c := 6) (k := 0) dX6_inPart_6 rfl rfl (by decide) fl_RX6_126 (c1) rfl ?_
  refine r_icmp_ge 36 dX6_inPart_9 (by decide) (fun q1 => ?_) (fun q1 => ?_)
  · refine r_iconst (v := 0) dX6_inPart_36 (by decide) ?_
    refine r_istore_nL [some (.ref l0), some (.int l1), some (.int l2), some (.int 0)] dX6_inPart_37 (by decide) rfl ?_
    exact k2 q1
  · refine r_aload_n dX6_inPart_12 rfl ?_
    refine r_getR (c := 6) (k := 9) dX6_inPart_13 rfl rfl (by decide) fl_RX6_26 (c1) rfl (c3) ?_
    refine r_iload_n dX6_inPart_16 rfl ?_
    refine r_ialoadJ (Int32.toNatClampNeg l3) dX6_inPart_17 (c4) (c5 q1) rfl ?_
    refine r_iload_n dX6_inPart_18 rfl ?_
    refine r_icmp_ne 28 dX6_inPart_19 (by decide) (fun q2 => ?_) (fun q2 => ?_)
    · refine r_iload_n dX6_inPart_28 rfl ?_
      refine r_istore_nL [some (.ref l0), some (.int l1), some (.int l2), some (.int l3)] dX6_inPart_29 (by decide) rfl ?_
      refine r_iincL (v := l3 + 1) [some (.ref l0), some (.int l1), some (.int l2), some (.int (l3 + 1))] dX6_inPart_30 rfl (by decide) rfl rfl ?_
      refine r_goto (tgt := 4) dX6_inPart_33 (by decide) ?_
      exact k6 q1 q2
    · refine r_iload_n dX6_inPart_22 rfl ?_
      refine r_iconst (v := 1) dX6_inPart_23 (by decide) ?_
      refine r_iadd dX6_inPart_24 ?_
      refine r_goto (tgt := 29) dX6_inPart_25 (by decide) ?_
      refine r_istore_nL [some (.ref l0), some (.int l1), some (.int (l2 + 1)), some (.int l3)] dX6_inPart_29 (by decide) rfl ?_
      refine r_iincL (v := l3 + 1) [some (.ref l0), some (.int l1), some (.int (l2 + 1)), some (.int (l3 + 1))] dX6_inPart_30 rfl (by decide) rfl rfl ?_
      refine r_goto (tgt := 4) dX6_inPart_33 (by decide) ?_
      exact k7 q1 q2

set_option maxRecDepth 20000 in
set_option maxHeartbeats 2000000 in
theorem s_X6_inPart_38 {G : GG} {nc ns : Nat} {h : PH} {Z : Option Value → PH → Prop} {l0 : Nat} {l1 : Int32} {l2 : Int32} {l3 : Int32}
    (c1 : hK h l0 = 16)
    (k2 : ((hI h l0 1) ≤ l3) → Z (some (.int l2)) h)
    (c3 : (hR h l0 10) ≠ 0)
    (c4 : hK h (hR h l0 10) = 2)
    (c5 : (¬ (hI h l0 1) ≤ l3) → vp_in l3 (hL h (hR h l0 10)))
    (k6 : (¬ (hI h l0 1) ≤ l3) → (¬ (hI h (hR h l0 10) (Int32.toNatClampNeg l3)) = l1) → RR G nc ns m_X6_inPart 38 [some (.ref l0), some (.int l1), some (.int l2), some (.int (l3 + 1))] [] h Z)
    (k7 : (¬ (hI h l0 1) ≤ l3) → ((hI h (hR h l0 10) (Int32.toNatClampNeg l3)) = l1) → RR G nc ns m_X6_inPart 38 [some (.ref l0), some (.int l1), some (.int (l2 + 1)), some (.int (l3 + 1))] [] h Z) :
    RR G nc ns m_X6_inPart 38 [some (.ref l0), some (.int l1), some (.int l2), some (.int l3)] [] h Z := by
  refine r_iload_n dX6_inPart_38 rfl ?_
  refine r_aload_n dX6_inPart_39 rfl ?_
  refine r_get (c := 6) (k := 1) dX6_inPart_40 rfl rfl (by decide) fl_RX6_129 (c1) rfl ?_
  refine r_icmp_ge 70 dX6_inPart_43 (by decide) (fun q1 => ?_) (fun q1 => ?_)
  · refine r_iload_n dX6_inPart_70 rfl ?_
    exact r_ireturn dX6_inPart_71 rfl (k2 q1)
  · refine r_aload_n dX6_inPart_46 rfl ?_
    refine r_getR (c := 6) (k := 10) dX6_inPart_47 rfl rfl (by decide) fl_RX6_29 (c1) rfl (c3) ?_
    refine r_iload_n dX6_inPart_50 rfl ?_
    refine r_ialoadJ (Int32.toNatClampNeg l3) dX6_inPart_51 (c4) (c5 q1) rfl ?_
    refine r_iload_n dX6_inPart_52 rfl ?_
    refine r_icmp_ne 62 dX6_inPart_53 (by decide) (fun q2 => ?_) (fun q2 => ?_)
    · refine r_iload_n dX6_inPart_62 rfl ?_
      refine r_istore_nL [some (.ref l0), some (.int l1), some (.int l2), some (.int l3)] dX6_inPart_63 (by decide) rfl ?_
      refine r_iincL (v := l3 + 1) [some (.ref l0), some (.int l1), some (.int l2), some (.int (l3 + 1))] dX6_inPart_64 rfl (by decide) rfl rfl ?_
      refine r_goto (tgt := 38) dX6_inPart_67 (by decide) ?_
      exact k6 q1 q2
    · refine r_iload_n dX6_inPart_56 rfl ?_
      refine r_iconst (v := 1) dX6_inPart_57 (by decide) ?_
      refine r_iadd dX6_inPart_58 ?_
      refine r_goto (tgt := 63) dX6_inPart_59 (by decide) ?_
      refine r_istore_nL [some (.ref l0), some (.int l1), some (.int (l2 + 1)), some (.int l3)] dX6_inPart_63 (by decide) rfl ?_
      refine r_iincL (v := l3 + 1) [some (.ref l0), some (.int l1), some (.int (l2 + 1)), some (.int (l3 + 1))] dX6_inPart_64 rfl (by decide) rfl rfl ?_
      refine r_goto (tgt := 38) dX6_inPart_67 (by decide) ?_
      exact k7 q1 q2

set_option maxRecDepth 20000 in
set_option maxHeartbeats 2000000 in
theorem s_X6_count_0 {G : GG} {nc ns : Nat} {h : PH} {Z : Option Value → PH → Prop} {l0 : Nat} {l1 : Int32} {P1 : PH → Prop} {P2 : PH → Prop}
    (k1 : (l1 < 0) → Z (some (.int (-1))) h)
    (e2 : (¬ l1 < 0) → (l1 ≤ 11) → (l1 ≤ 8) → Ev G m_X6_work [.ref l0] h 0 0 (RV P1))
    (c3 : hK h l0 = 16)
    (k4 : (¬ l1 < 0) → (l1 ≤ 11) → (l1 ≤ 8) → ∀ (h1 : PH), P1 h1 → hN h1 = (hN h) → hS h1 = (hS h) → RR G nc ns m_X6_count 29 [some (.ref l0), some (.int l1), none, none] [] h1 Z)
    (e5 : (¬ l1 < 0) → (l1 ≤ 11) → (¬ l1 ≤ 8) → Ev G m_X6_workThings [.ref l0] h 0 0 (RV P2))
    (k6 : (¬ l1 < 0) → (l1 ≤ 11) → (¬ l1 ≤ 8) → ∀ (h2 : PH), P2 h2 → hN h2 = (hN h) → hS h2 = (hS h) → RR G nc ns m_X6_count 22 [some (.ref l0), some (.int l1), none, none] [] h2 Z)
    (k7 : (¬ l1 < 0) → (¬ l1 ≤ 11) → Z (some (.int (-1))) h) :
    RR G nc ns m_X6_count 0 [some (.ref l0), some (.int l1), none, none] [] h Z := by
  refine r_iload_n dX6_count_0 rfl ?_
  refine r_if_lt 10 dX6_count_1 (by decide) (fun q1 => ?_) (fun q1 => ?_)
  · refine r_iconst (v := (-1)) dX6_count_10 (by decide) ?_
    exact r_ireturn dX6_count_11 rfl (k1 q1)
  · refine r_iload_n dX6_count_4 rfl ?_
    refine r_bipush (v := 11) dX6_count_5 (by decide) ?_
    refine r_icmp_le 12 dX6_count_7 (by decide) (fun q2 => ?_) (fun q2 => ?_)
    · refine r_iload_n dX6_count_12 rfl ?_
      refine r_bipush (v := 8) dX6_count_13 (by decide) ?_
      refine r_icmp_le 25 dX6_count_15 (by decide) (fun q3 => ?_) (fun q3 => ?_)
      · refine r_aload_n dX6_count_25 rfl ?_
        refine r_callV (c := 6) (mc := 0) (ms := 0) dX6_count_26 ck_X6_work iv_X6_work sl_X6_work lk_RX6_167 rfl rfl (c3) (by decide) (by decide) (As := []) rfl rfl (Nat.le_of_ble_eq_true rfl) (Or.inl rfl) (Or.inl rfl) (e2 q1 q2 q3) ?_
        rintro v1 h1 ⟨rfl, z1⟩ n1 t1
        exact k4 q1 q2 q3 h1 z1 n1 t1
      · refine r_aload_n dX6_count_18 rfl ?_
        refine r_callV (c := 6) (mc := 0) (ms := 0) dX6_count_19 ck_X6_workThings iv_X6_workThings sl_X6_workThings lk_RX6_164 rfl rfl (c3) (by decide) (by decide) (As := []) rfl rfl (Nat.le_of_ble_eq_true rfl) (Or.inl rfl) (Or.inl rfl) (e5 q1 q2 q3) ?_
        rintro v2 h2 ⟨rfl, z2⟩ n2 t2
        exact k6 q1 q2 q3 h2 z2 n2 t2
    · refine r_iconst (v := (-1)) dX6_count_10 (by decide) ?_
      exact r_ireturn dX6_count_11 rfl (k7 q1 q2)

set_option maxRecDepth 20000 in
set_option maxHeartbeats 2000000 in
theorem s_X6_count_22 {G : GG} {nc ns : Nat} {h : PH} {Z : Option Value → PH → Prop} {l0 : Nat} {l1 : Int32}
    (k1 : RR G nc ns m_X6_count 29 [some (.ref l0), some (.int l1), none, none] [] h Z) :
    RR G nc ns m_X6_count 22 [some (.ref l0), some (.int l1), none, none] [] h Z := by
  refine r_goto (tgt := 29) dX6_count_22 (by decide) ?_
  exact k1

set_option maxRecDepth 20000 in
set_option maxHeartbeats 2000000 in
theorem s_X6_count_29 {G : GG} {nc ns : Nat} {h : PH} {Z : Option Value → PH → Prop} {l0 : Nat} {l1 : Int32} {x1 : Int32} {x2 : Int32} {x3 : Int32} {x4 : Int32}
    (k1 : (l1 < 0 ∨ 10 < l1) → RR G nc ns m_X6_count 145 [some (.ref l0), some (.int l1), some (.int 0), some (.int 0)] [] h Z)
    (c2 : hK h l0 = 16)
    (k3 : (l1 = 0) → Z (some (.int (hI h l0 0))) h)
    (k4 : (l1 = 1) → Z (some (.int (hI h l0 1))) h)
    (e5 : (l1 = 2) → Ev G m_X6_edgesMany [.ref l0] h 0 0 (Ret (some (.int x1)) h))
    (k6 : (l1 = 2) → Z (some (.int x1)) h)
    (k7 : (l1 = 3) → Z (some (.int (hI h l0 4))) h)
    (k8 : (l1 = 4) → Z (some (.int ((hI h l0 0) - (hI h l0 4)))) h)
    (e9 : (l1 = 5) → Ev G m_X6_inPart [.ref l0, .int (l1 - 5)] h 0 0 (Ret (some (.int x2)) h))
    (k10 : (l1 = 5) → Z (some (.int x2)) h)
    (e11 : (l1 = 6) → Ev G m_X6_inPart [.ref l0, .int (l1 - 5)] h 0 0 (Ret (some (.int x3)) h))
    (k12 : (l1 = 6) → Z (some (.int x3)) h)
    (e13 : (l1 = 7) → Ev G m_X6_inPart [.ref l0, .int (l1 - 5)] h 0 0 (Ret (some (.int x4)) h))
    (k14 : (l1 = 7) → Z (some (.int x4)) h)
    (k15 : (l1 = 8) → Z (some (.int (hI h l0 13))) h)
    (k16 : (l1 = 9) → Z (some (.int (hI h l0 17))) h)
    (k17 : (l1 = 10) → Z (some (.int (hI h l0 20))) h) :
    RR G nc ns m_X6_count 29 [some (.ref l0), some (.int l1), none, none] [] h Z := by
  refine r_iload_n dX6_count_29 rfl ?_
  by_cases q1 : l1 < 0 ∨ 10 < l1
  · refine r_tableOut (tgt := 141) dX6_count_30 (sw_out (by decide) (by decide) q1) (by decide) ?_
    refine r_iconst (v := 0) dX6_count_141 (by decide) ?_
    refine r_istore_nL [some (.ref l0), some (.int l1), some (.int 0), none] dX6_count_142 (by decide) rfl ?_
    refine r_iconst (v := 0) dX6_count_143 (by decide) ?_
    refine r_istore_nL [some (.ref l0), some (.int l1), some (.int 0), some (.int 0)] dX6_count_144 (by decide) rfl ?_
    exact k1 q1
  · rcases sw_in_0_10 q1 with q9 | q9 | q9 | q9 | q9 | q9 | q9 | q9 | q9 | q9 | q9
    · have q2 : l1 = 0 := q9
      refine r_tableIn (off := 58) (tgt := 88) dX6_count_30 (by rw [q2]; decide) (by rw [q2]; decide) (by rw [q2]; rfl) (by decide) ?_
      refine r_aload_n dX6_count_88 rfl ?_
      refine r_get (c := 6) (k := 0) dX6_count_89 rfl rfl (by decide) fl_RX6_126 (c2) rfl ?_
      exact r_ireturn dX6_count_92 rfl (k3 q2)
    · have q3 : l1 = 1 := q9
      refine r_tableIn (off := 63) (tgt := 93) dX6_count_30 (by rw [q3]; decide) (by rw [q3]; decide) (by rw [q3]; rfl) (by decide) ?_
      refine r_aload_n dX6_count_93 rfl ?_
      refine r_get (c := 6) (k := 1) dX6_count_94 rfl rfl (by decide) fl_RX6_129 (c2) rfl ?_
      exact r_ireturn dX6_count_97 rfl (k4 q3)
    · have q4 : l1 = 2 := q9
      refine r_tableIn (off := 68) (tgt := 98) dX6_count_30 (by rw [q4]; decide) (by rw [q4]; decide) (by rw [q4]; rfl) (by decide) ?_
      refine r_aload_n dX6_count_98 rfl ?_
      refine r_callV1 (c := 6) (mc := 0) (ms := 0) dX6_count_99 ck_X6_edgesMany iv_X6_edgesMany sl_X6_edgesMany lk_RX6_170 rfl rfl (c2) (by decide) (by decide) (As := []) rfl rfl (Nat.le_of_ble_eq_true rfl) (Or.inl rfl) (Or.inl rfl) (e5 q4) ?_
      exact r_ireturn dX6_count_102 rfl (k6 q4)
    · have q5 : l1 = 3 := q9
      refine r_tableIn (off := 73) (tgt := 103) dX6_count_30 (by rw [q5]; decide) (by rw [q5]; decide) (by rw [q5]; rfl) (by decide) ?_
      refine r_aload_n dX6_count_103 rfl ?_
      refine r_get (c := 6) (k := 4) dX6_count_104 rfl rfl (by decide) fl_RX6_143 (c2) rfl ?_
      exact r_ireturn dX6_count_107 rfl (k7 q5)
    · have q6 : l1 = 4 := q9
      refine r_tableIn (off := 78) (tgt := 108) dX6_count_30 (by rw [q6]; decide) (by rw [q6]; decide) (by rw [q6]; rfl) (by decide) ?_
      refine r_aload_n dX6_count_108 rfl ?_
      refine r_get (c := 6) (k := 0) dX6_count_109 rfl rfl (by decide) fl_RX6_126 (c2) rfl ?_
      refine r_aload_n dX6_count_112 rfl ?_
      refine r_get (c := 6) (k := 4) dX6_count_113 rfl rfl (by decide) fl_RX6_143 (c2) rfl ?_
      refine r_isub dX6_count_116 ?_
      exact r_ireturn dX6_count_117 rfl (k8 q6)
    · have q7 : l1 = 5 := q9
      refine r_tableIn (off := 88) (tgt := 118) dX6_count_30 (by rw [q7]; decide) (by rw [q7]; decide) (by rw [q7]; rfl) (by decide) ?_
      refine r_aload_n dX6_count_118 rfl ?_
      refine r_iload_n dX6_count_119 rfl ?_
      refine r_iconst (v := 5) dX6_count_120 (by decide) ?_
      refine r_isub dX6_count_121 ?_
      refine r_callV1 (c := 6) (mc := 0) (ms := 0) dX6_count_122 ck_X6_inPart iv_X6_inPart sl_X6_inPart lk_RX6_173 rfl rfl (c2) (by decide) (by decide) (As := [.int (l1 - 5)]) rfl rfl (Nat.le_of_ble_eq_true rfl) (Or.inl rfl) (Or.inl rfl) (e9 q7) ?_
      exact r_ireturn dX6_count_125 rfl (k10 q7)
    · have q8 : l1 = 6 := q9
      refine r_tableIn (off := 88) (tgt := 118) dX6_count_30 (by rw [q8]; decide) (by rw [q8]; decide) (by rw [q8]; rfl) (by decide) ?_
      refine r_aload_n dX6_count_118 rfl ?_
      refine r_iload_n dX6_count_119 rfl ?_
      refine r_iconst (v := 5) dX6_count_120 (by decide) ?_
      refine r_isub dX6_count_121 ?_
      refine r_callV1 (c := 6) (mc := 0) (ms := 0) dX6_count_122 ck_X6_inPart iv_X6_inPart sl_X6_inPart lk_RX6_173 rfl rfl (c2) (by decide) (by decide) (As := [.int (l1 - 5)]) rfl rfl (Nat.le_of_ble_eq_true rfl) (Or.inl rfl) (Or.inl rfl) (e11 q8) ?_
      exact r_ireturn dX6_count_125 rfl (k12 q8)
    · have q9 : l1 = 7 := q9
      refine r_tableIn (off := 88) (tgt := 118) dX6_count_30 (by rw [q9]; decide) (by rw [q9]; decide) (by rw [q9]; rfl) (by decide) ?_
      refine r_aload_n dX6_count_118 rfl ?_
      refine r_iload_n dX6_count_119 rfl ?_
      refine r_iconst (v := 5) dX6_count_120 (by decide) ?_
      refine r_isub dX6_count_121 ?_
      refine r_callV1 (c := 6) (mc := 0) (ms := 0) dX6_count_122 ck_X6_inPart iv_X6_inPart sl_X6_inPart lk_RX6_173 rfl rfl (c2) (by decide) (by decide) (As := [.int (l1 - 5)]) rfl rfl (Nat.le_of_ble_eq_true rfl) (Or.inl rfl) (Or.inl rfl) (e13 q9) ?_
      exact r_ireturn dX6_count_125 rfl (k14 q9)
    · have q10 : l1 = 8 := q9
      refine r_tableIn (off := 96) (tgt := 126) dX6_count_30 (by rw [q10]; decide) (by rw [q10]; decide) (by rw [q10]; rfl) (by decide) ?_
      refine r_aload_n dX6_count_126 rfl ?_
      refine r_get (c := 6) (k := 13) dX6_count_127 rfl rfl (by decide) fl_RX6_159 (c2) rfl ?_
      exact r_ireturn dX6_count_130 rfl (k15 q10)
    · have q11 : l1 = 9 := q9
      refine r_tableIn (off := 101) (tgt := 131) dX6_count_30 (by rw [q11]; decide) (by rw [q11]; decide) (by rw [q11]; rfl) (by decide) ?_
      refine r_aload_n dX6_count_131 rfl ?_
      refine r_get (c := 6) (k := 17) dX6_count_132 rfl rfl (by decide) fl_RX6_177 (c2) rfl ?_
      exact r_ireturn dX6_count_135 rfl (k16 q11)
    · have q12 : l1 = 10 := q9
      refine r_tableIn (off := 106) (tgt := 136) dX6_count_30 (by rw [q12]; decide) (by rw [q12]; decide) (by rw [q12]; rfl) (by decide) ?_
      refine r_aload_n dX6_count_136 rfl ?_
      refine r_get (c := 6) (k := 20) dX6_count_137 rfl rfl (by decide) fl_RX6_180 (c2) rfl ?_
      exact r_ireturn dX6_count_140 rfl (k17 q12)

set_option maxRecDepth 20000 in
set_option maxHeartbeats 2000000 in
theorem s_X6_count_145 {G : GG} {nc ns : Nat} {h : PH} {Z : Option Value → PH → Prop} {l0 : Nat} {l1 : Int32} {l2 : Int32} {l3 : Int32}
    (c1 : hK h l0 = 16)
    (k2 : ((hI h l0 17) ≤ l3) → Z (some (.int l2)) h)
    (c3 : (hR h l0 23) ≠ 0)
    (c4 : hK h (hR h l0 23) = 2)
    (c5 : (¬ (hI h l0 17) ≤ l3) → vp_in l3 (hL h (hR h l0 23)))
    (k6 : (¬ (hI h l0 17) ≤ l3) → (((hI h (hR h l0 23) (Int32.toNatClampNeg l3)) + 1) ≤ l2) → RR G nc ns m_X6_count 145 [some (.ref l0), some (.int l1), some (.int l2), some (.int (l3 + 1))] [] h Z)
    (k7 : (¬ (hI h l0 17) ≤ l3) → (¬ ((hI h (hR h l0 23) (Int32.toNatClampNeg l3)) + 1) ≤ l2) → RR G nc ns m_X6_count 145 [some (.ref l0), some (.int l1), some (.int ((hI h (hR h l0 23) (Int32.toNatClampNeg l3)) + 1)), some (.int (l3 + 1))] [] h Z) :
    RR G nc ns m_X6_count 145 [some (.ref l0), some (.int l1), some (.int l2), some (.int l3)] [] h Z := by
  refine r_iload_n dX6_count_145 rfl ?_
  refine r_aload_n dX6_count_146 rfl ?_
  refine r_get (c := 6) (k := 17) dX6_count_147 rfl rfl (by decide) fl_RX6_177 (c1) rfl ?_
  refine r_icmp_ge 184 dX6_count_150 (by decide) (fun q1 => ?_) (fun q1 => ?_)
  · refine r_iload_n dX6_count_184 rfl ?_
    exact r_ireturn dX6_count_185 rfl (k2 q1)
  · refine r_aload_n dX6_count_153 rfl ?_
    refine r_getR (c := 6) (k := 23) dX6_count_154 rfl rfl (by decide) fl_RX6_52 (c1) rfl (c3) ?_
    refine r_iload_n dX6_count_157 rfl ?_
    refine r_ialoadJ (Int32.toNatClampNeg l3) dX6_count_158 (c4) (c5 q1) rfl ?_
    refine r_iconst (v := 1) dX6_count_159 (by decide) ?_
    refine r_iadd dX6_count_160 ?_
    refine r_iload_n dX6_count_161 rfl ?_
    refine r_icmp_le 176 dX6_count_162 (by decide) (fun q2 => ?_) (fun q2 => ?_)
    · refine r_iload_n dX6_count_176 rfl ?_
      refine r_istore_nL [some (.ref l0), some (.int l1), some (.int l2), some (.int l3)] dX6_count_177 (by decide) rfl ?_
      refine r_iincL (v := l3 + 1) [some (.ref l0), some (.int l1), some (.int l2), some (.int (l3 + 1))] dX6_count_178 rfl (by decide) rfl rfl ?_
      refine r_goto (tgt := 145) dX6_count_181 (by decide) ?_
      exact k6 q1 q2
    · refine r_aload_n dX6_count_165 rfl ?_
      refine r_getR (c := 6) (k := 23) dX6_count_166 rfl rfl (by decide) fl_RX6_52 (c1) rfl (c3) ?_
      refine r_iload_n dX6_count_169 rfl ?_
      refine r_ialoadJ (Int32.toNatClampNeg l3) dX6_count_170 (c4) (c5 q1) rfl ?_
      refine r_iconst (v := 1) dX6_count_171 (by decide) ?_
      refine r_iadd dX6_count_172 ?_
      refine r_goto (tgt := 177) dX6_count_173 (by decide) ?_
      refine r_istore_nL [some (.ref l0), some (.int l1), some (.int ((hI h (hR h l0 23) (Int32.toNatClampNeg l3)) + 1)), some (.int l3)] dX6_count_177 (by decide) rfl ?_
      refine r_iincL (v := l3 + 1) [some (.ref l0), some (.int l1), some (.int ((hI h (hR h l0 23) (Int32.toNatClampNeg l3)) + 1)), some (.int (l3 + 1))] dX6_count_178 rfl (by decide) rfl rfl ?_
      refine r_goto (tgt := 145) dX6_count_181 (by decide) ?_
      exact k7 q1 q2

set_option maxRecDepth 20000 in
set_option maxHeartbeats 2000000 in
theorem s_X6_has_0 {G : GG} {nc ns : Nat} {h : PH} {Z : Option Value → PH → Prop} {l0 : Nat} {l1 : Int32} {l2 : Int32} {x1 : Int32} {x2 : Int32}
    (e1 : Ev G m_X6_isNode [.ref l0, .int 0, .int l1] h 0 0 (Ret (some (.int x1)) h))
    (c2 : hK h l0 = 16)
    (k3 : (x1 = 0) → Z (some (.int 0)) h)
    (e4 : (¬ x1 = 0) → Ev G m_X6_isNode [.ref l0, .int 1, .int l2] h 0 0 (Ret (some (.int x2)) h))
    (k5 : (¬ x1 = 0) → (x2 = 0) → Z (some (.int 0)) h)
    (c6 : (hR h l0 2) ≠ 0)
    (c7 : hK h (hR h l0 2) = 4)
    (c8 : (¬ x1 = 0) → (¬ x2 = 0) → vp_in ((50 * l1) + l2) (hL h (hR h l0 2)))
    (k9 : (¬ x1 = 0) → (¬ x2 = 0) → ((hI h (hR h l0 2) (Int32.toNatClampNeg ((50 * l1) + l2))) = 0) → Z (some (.int 0)) h)
    (k10 : (¬ x1 = 0) → (¬ x2 = 0) → (¬ (hI h (hR h l0 2) (Int32.toNatClampNeg ((50 * l1) + l2))) = 0) → Z (some (.int 1)) h) :
    RR G nc ns m_X6_has 0 [some (.ref l0), some (.int l1), some (.int l2)] [] h Z := by
  refine r_aload_n dX6_has_0 rfl ?_
  refine r_iconst (v := 0) dX6_has_1 (by decide) ?_
  refine r_iload_n dX6_has_2 rfl ?_
  refine r_callV1 (c := 6) (mc := 0) (ms := 0) dX6_has_3 ck_X6_isNode iv_X6_isNode sl_X6_isNode lk_RX6_161 rfl rfl (c2) (by decide) (by decide) (As := [.int 0, .int l1]) rfl rfl (Nat.le_of_ble_eq_true rfl) (Or.inl rfl) (Or.inl rfl) (e1) ?_
  refine r_if_eq 36 dX6_has_6 (by decide) (fun q1 => ?_) (fun q1 => ?_)
  · refine r_iconst (v := 0) dX6_has_36 (by decide) ?_
    exact r_zreturn dX6_has_37 rfl (by decide) (k3 q1)
  · refine r_aload_n dX6_has_9 rfl ?_
    refine r_iconst (v := 1) dX6_has_10 (by decide) ?_
    refine r_iload_n dX6_has_11 rfl ?_
    refine r_callV1 (c := 6) (mc := 0) (ms := 0) dX6_has_12 ck_X6_isNode iv_X6_isNode sl_X6_isNode lk_RX6_161 rfl rfl (c2) (by decide) (by decide) (As := [.int 1, .int l2]) rfl rfl (Nat.le_of_ble_eq_true rfl) (Or.inl rfl) (Or.inl rfl) (e4 q1) ?_
    refine r_if_eq 36 dX6_has_15 (by decide) (fun q2 => ?_) (fun q2 => ?_)
    · refine r_iconst (v := 0) dX6_has_36 (by decide) ?_
      exact r_zreturn dX6_has_37 rfl (by decide) (k5 q1 q2)
    · refine r_aload_n dX6_has_18 rfl ?_
      refine r_getR (c := 6) (k := 2) dX6_has_19 rfl rfl (by decide) fl_RX6_7 (c2) rfl (c6) ?_
      refine r_bipush (v := 50) dX6_has_22 (by decide) ?_
      refine r_iload_n dX6_has_24 rfl ?_
      refine r_imul dX6_has_25 ?_
      refine r_iload_n dX6_has_26 rfl ?_
      refine r_iadd dX6_has_27 ?_
      refine r_baloadJ (Int32.toNatClampNeg ((50 * l1) + l2)) dX6_has_28 (c7) (c8 q1 q2) rfl ?_
      refine r_if_eq 36 dX6_has_29 (by decide) (fun q3 => ?_) (fun q3 => ?_)
      · refine r_iconst (v := 0) dX6_has_36 (by decide) ?_
        exact r_zreturn dX6_has_37 rfl (by decide) (k9 q1 q2 q3)
      · refine r_iconst (v := 1) dX6_has_32 (by decide) ?_
        refine r_goto (tgt := 37) dX6_has_33 (by decide) ?_
        exact r_zreturn dX6_has_37 rfl (by decide) (k10 q1 q2 q3)

set_option maxRecDepth 20000 in
set_option maxHeartbeats 2000000 in
theorem s_X6_partner_0 {G : GG} {nc ns : Nat} {h : PH} {Z : Option Value → PH → Prop} {l0 : Nat} {l1 : Int32} {l2 : Int32} {x1 : Int32} {P2 : PH → Prop}
    (e1 : Ev G m_X6_isNode [.ref l0, .int l1, .int l2] h 0 0 (Ret (some (.int x1)) h))
    (c2 : hK h l0 = 16)
    (e3 : (¬ x1 = 0) → Ev G m_X6_work [.ref l0] h 0 0 (RV P2))
    (k4 : (¬ x1 = 0) → ∀ (h2 : PH), P2 h2 → hN h2 = (hN h) → hS h2 = (hS h) → RR G nc ns m_X6_partner 15 [some (.ref l0), some (.int l1), some (.int l2), none] [] h2 Z)
    (k5 : (x1 = 0) → Z (some (.int (-1))) h) :
    RR G nc ns m_X6_partner 0 [some (.ref l0), some (.int l1), some (.int l2), none] [] h Z := by
  refine r_aload_n dX6_partner_0 rfl ?_
  refine r_iload_n dX6_partner_1 rfl ?_
  refine r_iload_n dX6_partner_2 rfl ?_
  refine r_callV1 (c := 6) (mc := 0) (ms := 0) dX6_partner_3 ck_X6_isNode iv_X6_isNode sl_X6_isNode lk_RX6_161 rfl rfl (c2) (by decide) (by decide) (As := [.int l1, .int l2]) rfl rfl (Nat.le_of_ble_eq_true rfl) (Or.inl rfl) (Or.inl rfl) (e1) ?_
  refine r_if_ne 11 dX6_partner_6 (by decide) (fun q1 => ?_) (fun q1 => ?_)
  · refine r_aload_n dX6_partner_11 rfl ?_
    refine r_callV (c := 6) (mc := 0) (ms := 0) dX6_partner_12 ck_X6_work iv_X6_work sl_X6_work lk_RX6_167 rfl rfl (c2) (by decide) (by decide) (As := []) rfl rfl (Nat.le_of_ble_eq_true rfl) (Or.inl rfl) (Or.inl rfl) (e3 q1) ?_
    rintro v2 h2 ⟨rfl, z2⟩ n2 t2
    exact k4 q1 h2 z2 n2 t2
  · refine r_iconst (v := (-1)) dX6_partner_9 (by decide) ?_
    exact r_ireturn dX6_partner_10 rfl (k5 q1)

set_option maxRecDepth 20000 in
set_option maxHeartbeats 2000000 in
theorem s_X6_partner_15 {G : GG} {nc ns : Nat} {h : PH} {Z : Option Value → PH → Prop} {l0 : Nat} {l1 : Int32} {l2 : Int32}
    (c1 : hK h l0 = 16)
    (c2 : (hR h l0 6) ≠ 0)
    (c3 : hK h (hR h l0 6) = 2)
    (c4 : (¬ l1 = 0) → vp_in l2 (hL h (hR h l0 6)))
    (k5 : (¬ l1 = 0) → (0 ≤ (hI h (hR h l0 6) (Int32.toNatClampNeg l2))) → Z (some (.int (hI h (hR h l0 6) (Int32.toNatClampNeg l2)))) h)
    (k6 : (¬ l1 = 0) → (¬ 0 ≤ (hI h (hR h l0 6) (Int32.toNatClampNeg l2))) → Z (some (.int (-3))) h)
    (c7 : (hR h l0 5) ≠ 0)
    (c8 : hK h (hR h l0 5) = 2)
    (c9 : (l1 = 0) → vp_in l2 (hL h (hR h l0 5)))
    (k10 : (l1 = 0) → (0 ≤ (hI h (hR h l0 5) (Int32.toNatClampNeg l2))) → Z (some (.int (hI h (hR h l0 5) (Int32.toNatClampNeg l2)))) h)
    (k11 : (l1 = 0) → (¬ 0 ≤ (hI h (hR h l0 5) (Int32.toNatClampNeg l2))) → Z (some (.int (-3))) h) :
    RR G nc ns m_X6_partner 15 [some (.ref l0), some (.int l1), some (.int l2), none] [] h Z := by
  refine r_iload_n dX6_partner_15 rfl ?_
  refine r_if_ne 28 dX6_partner_16 (by decide) (fun q1 => ?_) (fun q1 => ?_)
  · refine r_aload_n dX6_partner_28 rfl ?_
    refine r_getR (c := 6) (k := 6) dX6_partner_29 rfl rfl (by decide) fl_RX6_17 (c1) rfl (c2) ?_
    refine r_iload_n dX6_partner_32 rfl ?_
    refine r_ialoadJ (Int32.toNatClampNeg l2) dX6_partner_33 (c3) (c4 q1) rfl ?_
    refine r_istore_nL [some (.ref l0), some (.int l1), some (.int l2), some (.int (hI h (hR h l0 6) (Int32.toNatClampNeg l2)))] dX6_partner_34 (by decide) rfl ?_
    refine r_iload_n dX6_partner_35 rfl ?_
    refine r_if_ge 44 dX6_partner_36 (by decide) (fun q2 => ?_) (fun q2 => ?_)
    · refine r_iload_n dX6_partner_44 rfl ?_
      exact r_ireturn dX6_partner_45 rfl (k5 q1 q2)
    · refine r_bipush (v := (-3)) dX6_partner_39 (by decide) ?_
      refine r_goto (tgt := 45) dX6_partner_41 (by decide) ?_
      exact r_ireturn dX6_partner_45 rfl (k6 q1 q2)
  · refine r_aload_n dX6_partner_19 rfl ?_
    refine r_getR (c := 6) (k := 5) dX6_partner_20 rfl rfl (by decide) fl_RX6_13 (c1) rfl (c7) ?_
    refine r_iload_n dX6_partner_23 rfl ?_
    refine r_ialoadJ (Int32.toNatClampNeg l2) dX6_partner_24 (c8) (c9 q1) rfl ?_
    refine r_goto (tgt := 34) dX6_partner_25 (by decide) ?_
    refine r_istore_nL [some (.ref l0), some (.int l1), some (.int l2), some (.int (hI h (hR h l0 5) (Int32.toNatClampNeg l2)))] dX6_partner_34 (by decide) rfl ?_
    refine r_iload_n dX6_partner_35 rfl ?_
    refine r_if_ge 44 dX6_partner_36 (by decide) (fun q3 => ?_) (fun q3 => ?_)
    · refine r_iload_n dX6_partner_44 rfl ?_
      exact r_ireturn dX6_partner_45 rfl (k10 q1 q3)
    · refine r_bipush (v := (-3)) dX6_partner_39 (by decide) ?_
      refine r_goto (tgt := 45) dX6_partner_41 (by decide) ?_
      exact r_ireturn dX6_partner_45 rfl (k11 q1 q3)

set_option maxRecDepth 20000 in
set_option maxHeartbeats 2000000 in
theorem s_X6_edgeIs_0 {G : GG} {nc ns : Nat} {h : PH} {Z : Option Value → PH → Prop} {l0 : Nat} {l1 : Int32} {l2 : Int32} {x1 : Int32} {P2 : PH → Prop}
    (e1 : Ev G m_X6_has [.ref l0, .int l1, .int l2] h 0 0 (Ret (some (.int x1)) h))
    (c2 : hK h l0 = 16)
    (e3 : (¬ x1 = 0) → Ev G m_X6_work [.ref l0] h 0 0 (RV P2))
    (k4 : (¬ x1 = 0) → ∀ (h2 : PH), P2 h2 → hN h2 = (hN h) → hS h2 = (hS h) → RR G nc ns m_X6_edgeIs 15 [some (.ref l0), some (.int l1), some (.int l2), none] [] h2 Z)
    (k5 : (x1 = 0) → Z (some (.int (-1))) h) :
    RR G nc ns m_X6_edgeIs 0 [some (.ref l0), some (.int l1), some (.int l2), none] [] h Z := by
  refine r_aload_n dX6_edgeIs_0 rfl ?_
  refine r_iload_n dX6_edgeIs_1 rfl ?_
  refine r_iload_n dX6_edgeIs_2 rfl ?_
  refine r_callV1 (c := 6) (mc := 0) (ms := 0) dX6_edgeIs_3 ck_X6_has iv_X6_has sl_X6_has lk_RX6_183 rfl rfl (c2) (by decide) (by decide) (As := [.int l1, .int l2]) rfl rfl (Nat.le_of_ble_eq_true rfl) (Or.inl rfl) (Or.inl rfl) (e1) ?_
  refine r_if_ne 11 dX6_edgeIs_6 (by decide) (fun q1 => ?_) (fun q1 => ?_)
  · refine r_aload_n dX6_edgeIs_11 rfl ?_
    refine r_callV (c := 6) (mc := 0) (ms := 0) dX6_edgeIs_12 ck_X6_work iv_X6_work sl_X6_work lk_RX6_167 rfl rfl (c2) (by decide) (by decide) (As := []) rfl rfl (Nat.le_of_ble_eq_true rfl) (Or.inl rfl) (Or.inl rfl) (e3 q1) ?_
    rintro v2 h2 ⟨rfl, z2⟩ n2 t2
    exact k4 q1 h2 z2 n2 t2
  · refine r_iconst (v := (-1)) dX6_edgeIs_9 (by decide) ?_
    exact r_ireturn dX6_edgeIs_10 rfl (k5 q1)

set_option maxRecDepth 20000 in
set_option maxHeartbeats 2000000 in
theorem s_X6_edgeIs_15 {G : GG} {nc ns : Nat} {h : PH} {Z : Option Value → PH → Prop} {l0 : Nat} {l1 : Int32} {l2 : Int32} {P1 : PH → Prop}
    (c1 : hK h l0 = 16)
    (c2 : (hR h l0 2) ≠ 0)
    (e3 : Ev G m_X6_use [.ref l0, .ref (hR h l0 2), .int (hI h l0 0), .int (hI h l0 1)] h 0 0 (RV P1))
    (k4 : ∀ (h1 : PH), P1 h1 → hN h1 = (hN h) → hS h1 = (hS h) → RR G nc ns m_X6_edgeIs 31 [some (.ref l0), some (.int l1), some (.int l2), none] [] h1 Z) :
    RR G nc ns m_X6_edgeIs 15 [some (.ref l0), some (.int l1), some (.int l2), none] [] h Z := by
  refine r_aload_n dX6_edgeIs_15 rfl ?_
  refine r_aload_n dX6_edgeIs_16 rfl ?_
  refine r_getR (c := 6) (k := 2) dX6_edgeIs_17 rfl rfl (by decide) fl_RX6_7 (c1) rfl (c2) ?_
  refine r_aload_n dX6_edgeIs_20 rfl ?_
  refine r_get (c := 6) (k := 0) dX6_edgeIs_21 rfl rfl (by decide) fl_RX6_126 (c1) rfl ?_
  refine r_aload_n dX6_edgeIs_24 rfl ?_
  refine r_get (c := 6) (k := 1) dX6_edgeIs_25 rfl rfl (by decide) fl_RX6_129 (c1) rfl ?_
  refine r_callV (c := 6) (mc := 0) (ms := 0) dX6_edgeIs_28 ck_X6_use iv_X6_use sl_X6_use lk_RX6_132 rfl rfl (c1) (by decide) (by decide) (As := [.ref (hR h l0 2), .int (hI h l0 0), .int (hI h l0 1)]) rfl rfl (Nat.le_of_ble_eq_true rfl) (Or.inl rfl) (Or.inl rfl) (e3) ?_
  rintro v1 h1 ⟨rfl, z1⟩ n1 t1
  exact k4 h1 z1 n1 t1

set_option maxRecDepth 20000 in
set_option maxHeartbeats 2000000 in
theorem s_X6_edgeIs_31 {G : GG} {nc ns : Nat} {h : PH} {Z : Option Value → PH → Prop} {l0 : Nat} {l1 : Int32} {l2 : Int32} {P1 : Int32 → PH → Prop}
    (e1 : Ev G m_X6_growAll [.ref l0] h 0 0 (RI P1))
    (c2 : hK h l0 = 16)
    (k3 : ∀ (x1 : Int32) (h1 : PH), P1 x1 h1 → hN h1 = (hN h) → hS h1 = (hS h) → RR G nc ns m_X6_edgeIs 35 [some (.ref l0), some (.int l1), some (.int l2), none] [.int x1] h1 Z) :
    RR G nc ns m_X6_edgeIs 31 [some (.ref l0), some (.int l1), some (.int l2), none] [] h Z := by
  refine r_aload_n dX6_edgeIs_31 rfl ?_
  refine r_callV (c := 6) (mc := 0) (ms := 0) dX6_edgeIs_32 ck_X6_growAll iv_X6_growAll sl_X6_growAll lk_RX6_136 rfl rfl (c2) (by decide) (by decide) (As := []) rfl rfl (Nat.le_of_ble_eq_true rfl) (Or.inl rfl) (Or.inl rfl) (e1) ?_
  rintro v1 h1 ⟨x1, rfl, z1⟩ n1 t1
  exact k3 x1 h1 z1 n1 t1

set_option maxRecDepth 20000 in
set_option maxHeartbeats 2000000 in
theorem s_X6_edgeIs_35 {G : GG} {nc ns : Nat} {h : PH} {Z : Option Value → PH → Prop} {l0 : Nat} {l1 : Int32} {l2 : Int32} {s0 : Int32} {P1 : Int32 → PH → Prop}
    (e1 : Ev G m_X6_force [.ref l0, .int l1, .int l2] h 0 0 (RI P1))
    (c2 : hK h l0 = 16)
    (k3 : ∀ (x1 : Int32) (h1 : PH), P1 x1 h1 → hN h1 = (hN h) → hS h1 = (hS h) → RR G nc ns m_X6_edgeIs 42 [some (.ref l0), some (.int l1), some (.int l2), some (.int s0)] [.int x1] h1 Z) :
    RR G nc ns m_X6_edgeIs 35 [some (.ref l0), some (.int l1), some (.int l2), none] [.int s0] h Z := by
  refine r_istore_nL [some (.ref l0), some (.int l1), some (.int l2), some (.int s0)] dX6_edgeIs_35 (by decide) rfl ?_
  refine r_aload_n dX6_edgeIs_36 rfl ?_
  refine r_iload_n dX6_edgeIs_37 rfl ?_
  refine r_iload_n dX6_edgeIs_38 rfl ?_
  refine r_callV (c := 6) (mc := 0) (ms := 0) dX6_edgeIs_39 ck_X6_force iv_X6_force sl_X6_force lk_RX6_118 rfl rfl (c2) (by decide) (by decide) (As := [.int l1, .int l2]) rfl rfl (Nat.le_of_ble_eq_true rfl) (Or.inl rfl) (Or.inl rfl) (e1) ?_
  rintro v1 h1 ⟨x1, rfl, z1⟩ n1 t1
  exact k3 x1 h1 z1 n1 t1

set_option maxRecDepth 20000 in
set_option maxHeartbeats 2000000 in
theorem s_X6_edgeIs_42 {G : GG} {nc ns : Nat} {h : PH} {Z : Option Value → PH → Prop} {l0 : Nat} {l1 : Int32} {l2 : Int32} {l3 : Int32} {s0 : Int32} {P1 : Int32 → PH → Prop}
    (c1 : hK h l0 = 16)
    (c2 : (hR h l0 27) ≠ 0)
    (c3 : hK h (hR h l0 27) = 4)
    (c4 : (¬ s0 = 0) → vp_in ((50 * l1) + l2) (hL h (hR h l0 27)))
    (c5 : (hR h l0 32) ≠ 0)
    (c6 : hK h (hR h l0 32) = 2)
    (c7 : (¬ s0 = 0) → vp_in l1 (hL h (hR h l0 32)))
    (c8 : (hR h l0 33) ≠ 0)
    (c9 : hK h (hR h l0 33) = 2)
    (c10 : (¬ s0 = 0) → vp_in l2 (hL h (hR h l0 33)))
    (e11 : (¬ s0 = 0) → Ev G m_X6_grow [.ref l0] (sI (sI (sI h (hR h l0 27) (Int32.toNatClampNeg ((50 * l1) + l2)) 0) (hR h l0 32) (Int32.toNatClampNeg l1) (-1)) (hR h l0 33) (Int32.toNatClampNeg l2) (-1)) 0 0 (RI P1))
    (k12 : (¬ s0 = 0) → ∀ (x1 : Int32) (h1 : PH), P1 x1 h1 → hN h1 = (hN h) → hS h1 = (hS h) → RR G nc ns m_X6_edgeIs 77 [some (.ref l0), some (.int l1), some (.int l2), some (.int l3)] [.int x1] h1 Z)
    (k13 : (s0 = 0) → Z (some (.int 0)) h) :
    RR G nc ns m_X6_edgeIs 42 [some (.ref l0), some (.int l1), some (.int l2), some (.int l3)] [.int s0] h Z := by
  refine r_if_ne 47 dX6_edgeIs_42 (by decide) (fun q1 => ?_) (fun q1 => ?_)
  · refine r_aload_n dX6_edgeIs_47 rfl ?_
    refine r_getR (c := 6) (k := 27) dX6_edgeIs_48 rfl rfl (by decide) fl_RX6_64 (c1) rfl (c2) ?_
    refine r_bipush (v := 50) dX6_edgeIs_51 (by decide) ?_
    refine r_iload_n dX6_edgeIs_53 rfl ?_
    refine r_imul dX6_edgeIs_54 ?_
    refine r_iload_n dX6_edgeIs_55 rfl ?_
    refine r_iadd dX6_edgeIs_56 ?_
    refine r_iconst (v := 0) dX6_edgeIs_57 (by decide) ?_
    refine r_bastoreJ (Int32.toNatClampNeg ((50 * l1) + l2)) dX6_edgeIs_58 (c3) (c4 q1) rfl (by decide) ?_
    refine r_aload_n dX6_edgeIs_59 rfl ?_
    refine r_getR (c := 6) (k := 32) dX6_edgeIs_60 rfl rfl (by decide) fl_RX6_73 (c1) rfl (c5) ?_
    refine r_iload_n dX6_edgeIs_63 rfl ?_
    refine r_iconst (v := (-1)) dX6_edgeIs_64 (by decide) ?_
    refine r_iastoreJ (Int32.toNatClampNeg l1) dX6_edgeIs_65 (c6) (c7 q1) rfl ?_
    refine r_aload_n dX6_edgeIs_66 rfl ?_
    refine r_getR (c := 6) (k := 33) dX6_edgeIs_67 rfl rfl (by decide) fl_RX6_76 (c1) rfl (c8) ?_
    refine r_iload_n dX6_edgeIs_70 rfl ?_
    refine r_iconst (v := (-1)) dX6_edgeIs_71 (by decide) ?_
    refine r_iastoreJ (Int32.toNatClampNeg l2) dX6_edgeIs_72 (c9) (c10 q1) rfl ?_
    refine r_aload_n dX6_edgeIs_73 rfl ?_
    refine r_callV (c := 6) (mc := 0) (ms := 0) dX6_edgeIs_74 ck_X6_grow iv_X6_grow sl_X6_grow lk_RX6_108 rfl rfl (c1) (by decide) (by decide) (As := []) rfl rfl (Nat.le_of_ble_eq_true rfl) (Or.inl rfl) (Or.inl rfl) (e11 q1) ?_
    rintro v1 h1 ⟨x1, rfl, z1⟩ n1 t1
    exact k12 q1 x1 h1 z1 n1 t1
  · refine r_iconst (v := 0) dX6_edgeIs_45 (by decide) ?_
    exact r_ireturn dX6_edgeIs_46 rfl (k13 q1)

set_option maxRecDepth 20000 in
set_option maxHeartbeats 2000000 in
theorem s_X6_edgeIs_77 {G : GG} {nc ns : Nat} {h : PH} {Z : Option Value → PH → Prop} {l0 : Nat} {l1 : Int32} {l2 : Int32} {l3 : Int32} {s0 : Int32}
    (k1 : (s0 = 0) → Z (some (.int 2)) h)
    (k2 : (¬ s0 = 0) → Z (some (.int 1)) h) :
    RR G nc ns m_X6_edgeIs 77 [some (.ref l0), some (.int l1), some (.int l2), some (.int l3)] [.int s0] h Z := by
  refine r_if_eq 84 dX6_edgeIs_77 (by decide) (fun q1 => ?_) (fun q1 => ?_)
  · refine r_iconst (v := 2) dX6_edgeIs_84 (by decide) ?_
    exact r_ireturn dX6_edgeIs_85 rfl (k1 q1)
  · refine r_iconst (v := 1) dX6_edgeIs_80 (by decide) ?_
    refine r_goto (tgt := 85) dX6_edgeIs_81 (by decide) ?_
    exact r_ireturn dX6_edgeIs_85 rfl (k2 q1)

set_option maxRecDepth 20000 in
set_option maxHeartbeats 2000000 in
theorem s_X6_nodeIs_0 {G : GG} {nc ns : Nat} {h : PH} {Z : Option Value → PH → Prop} {l0 : Nat} {l1 : Int32} {l2 : Int32} {x1 : Int32} {P2 : PH → Prop}
    (e1 : Ev G m_X6_isNode [.ref l0, .int l1, .int l2] h 0 0 (Ret (some (.int x1)) h))
    (c2 : hK h l0 = 16)
    (e3 : (¬ x1 = 0) → Ev G m_X6_work [.ref l0] h 0 0 (RV P2))
    (k4 : (¬ x1 = 0) → ∀ (h2 : PH), P2 h2 → hN h2 = (hN h) → hS h2 = (hS h) → RR G nc ns m_X6_nodeIs 15 [some (.ref l0), some (.int l1), some (.int l2)] [] h2 Z)
    (k5 : (x1 = 0) → Z (some (.int (-1))) h) :
    RR G nc ns m_X6_nodeIs 0 [some (.ref l0), some (.int l1), some (.int l2)] [] h Z := by
  refine r_aload_n dX6_nodeIs_0 rfl ?_
  refine r_iload_n dX6_nodeIs_1 rfl ?_
  refine r_iload_n dX6_nodeIs_2 rfl ?_
  refine r_callV1 (c := 6) (mc := 0) (ms := 0) dX6_nodeIs_3 ck_X6_isNode iv_X6_isNode sl_X6_isNode lk_RX6_161 rfl rfl (c2) (by decide) (by decide) (As := [.int l1, .int l2]) rfl rfl (Nat.le_of_ble_eq_true rfl) (Or.inl rfl) (Or.inl rfl) (e1) ?_
  refine r_if_ne 11 dX6_nodeIs_6 (by decide) (fun q1 => ?_) (fun q1 => ?_)
  · refine r_aload_n dX6_nodeIs_11 rfl ?_
    refine r_callV (c := 6) (mc := 0) (ms := 0) dX6_nodeIs_12 ck_X6_work iv_X6_work sl_X6_work lk_RX6_167 rfl rfl (c2) (by decide) (by decide) (As := []) rfl rfl (Nat.le_of_ble_eq_true rfl) (Or.inl rfl) (Or.inl rfl) (e3 q1) ?_
    rintro v2 h2 ⟨rfl, z2⟩ n2 t2
    exact k4 q1 h2 z2 n2 t2
  · refine r_iconst (v := (-1)) dX6_nodeIs_9 (by decide) ?_
    exact r_ireturn dX6_nodeIs_10 rfl (k5 q1)

set_option maxRecDepth 20000 in
set_option maxHeartbeats 2000000 in
theorem s_X6_nodeIs_15 {G : GG} {nc ns : Nat} {h : PH} {Z : Option Value → PH → Prop} {l0 : Nat} {l1 : Int32} {l2 : Int32}
    (c1 : hK h l0 = 16)
    (c2 : (hR h l0 8) ≠ 0)
    (c3 : hK h (hR h l0 8) = 4)
    (c4 : (¬ l1 = 0) → vp_in l2 (hL h (hR h l0 8)))
    (k5 : (¬ l1 = 0) → ((hI h (hR h l0 8) (Int32.toNatClampNeg l2)) = 0) → Z (some (.int 1)) h)
    (k6 : (¬ l1 = 0) → (¬ (hI h (hR h l0 8) (Int32.toNatClampNeg l2)) = 0) → Z (some (.int 0)) h)
    (c7 : (hR h l0 7) ≠ 0)
    (c8 : hK h (hR h l0 7) = 4)
    (c9 : (l1 = 0) → vp_in l2 (hL h (hR h l0 7)))
    (k10 : (l1 = 0) → ((hI h (hR h l0 7) (Int32.toNatClampNeg l2)) = 0) → Z (some (.int 1)) h)
    (k11 : (l1 = 0) → (¬ (hI h (hR h l0 7) (Int32.toNatClampNeg l2)) = 0) → Z (some (.int 0)) h) :
    RR G nc ns m_X6_nodeIs 15 [some (.ref l0), some (.int l1), some (.int l2)] [] h Z := by
  refine r_iload_n dX6_nodeIs_15 rfl ?_
  refine r_if_ne 31 dX6_nodeIs_16 (by decide) (fun q1 => ?_) (fun q1 => ?_)
  · refine r_aload_n dX6_nodeIs_31 rfl ?_
    refine r_getR (c := 6) (k := 8) dX6_nodeIs_32 rfl rfl (by decide) fl_RX6_23 (c1) rfl (c2) ?_
    refine r_iload_n dX6_nodeIs_35 rfl ?_
    refine r_baloadJ (Int32.toNatClampNeg l2) dX6_nodeIs_36 (c3) (c4 q1) rfl ?_
    refine r_if_eq 44 dX6_nodeIs_37 (by decide) (fun q2 => ?_) (fun q2 => ?_)
    · refine r_iconst (v := 1) dX6_nodeIs_44 (by decide) ?_
      exact r_ireturn dX6_nodeIs_45 rfl (k5 q1 q2)
    · refine r_iconst (v := 0) dX6_nodeIs_40 (by decide) ?_
      refine r_goto (tgt := 45) dX6_nodeIs_41 (by decide) ?_
      exact r_ireturn dX6_nodeIs_45 rfl (k6 q1 q2)
  · refine r_aload_n dX6_nodeIs_19 rfl ?_
    refine r_getR (c := 6) (k := 7) dX6_nodeIs_20 rfl rfl (by decide) fl_RX6_20 (c1) rfl (c7) ?_
    refine r_iload_n dX6_nodeIs_23 rfl ?_
    refine r_baloadJ (Int32.toNatClampNeg l2) dX6_nodeIs_24 (c8) (c9 q1) rfl ?_
    refine r_if_eq 44 dX6_nodeIs_25 (by decide) (fun q3 => ?_) (fun q3 => ?_)
    · refine r_iconst (v := 1) dX6_nodeIs_44 (by decide) ?_
      exact r_ireturn dX6_nodeIs_45 rfl (k10 q1 q3)
    · refine r_goto (tgt := 40) dX6_nodeIs_28 (by decide) ?_
      refine r_iconst (v := 0) dX6_nodeIs_40 (by decide) ?_
      refine r_goto (tgt := 45) dX6_nodeIs_41 (by decide) ?_
      exact r_ireturn dX6_nodeIs_45 rfl (k11 q1 q3)

set_option maxRecDepth 20000 in
set_option maxHeartbeats 2000000 in
theorem s_X6_meetsMissed_0 {G : GG} {nc ns : Nat} {h : PH} {Z : Option Value → PH → Prop} {l0 : Nat} {l1 : Int32} {l2 : Int32}
    (k1 : RR G nc ns m_X6_meetsMissed 5 [some (.ref l0), some (.int l1), some (.int l2), some (.int 0), some (.int 0), none] [] h Z) :
    RR G nc ns m_X6_meetsMissed 0 [some (.ref l0), some (.int l1), some (.int l2), none, none, none] [] h Z := by
  refine r_iconst (v := 0) dX6_meetsMissed_0 (by decide) ?_
  refine r_istore_nL [some (.ref l0), some (.int l1), some (.int l2), some (.int 0), none, none] dX6_meetsMissed_1 (by decide) rfl ?_
  refine r_iconst (v := 0) dX6_meetsMissed_2 (by decide) ?_
  refine r_istoreL [some (.ref l0), some (.int l1), some (.int l2), some (.int 0), some (.int 0), none] dX6_meetsMissed_3 (by decide) rfl ?_
  exact k1

set_option maxRecDepth 20000 in
set_option maxHeartbeats 2000000 in
theorem s_X6_meetsMissed_5 {G : GG} {nc ns : Nat} {h : PH} {Z : Option Value → PH → Prop} {l0 : Nat} {l1 : Int32} {l2 : Int32} {l3 : Int32} {l4 : Int32}
    (c1 : hK h l0 = 16)
    (k2 : (¬ l1 = 0) → ((hI h l0 0) ≤ l4) → Z (some (.int l3)) h)
    (c3 : (¬ l1 = 0) → ((hI h l0 0) ≤ l4) → (l3 = 0 ∨ l3 = 1))
    (c4 : (hR h l0 2) ≠ 0)
    (c5 : hK h (hR h l0 2) = 4)
    (c6 : (¬ l1 = 0) → (¬ (hI h l0 0) ≤ l4) → (¬ l1 = 0) → vp_in ((50 * l4) + l2) (hL h (hR h l0 2)))
    (k7 : (¬ l1 = 0) → (¬ (hI h l0 0) ≤ l4) → (¬ l1 = 0) → (¬ l3 = 0) → RR G nc ns m_X6_meetsMissed 5 [some (.ref l0), some (.int l1), some (.int l2), some (.int 1), some (.int (l4 + 1)), none] [] h Z)
    (k8 : (¬ l1 = 0) → (¬ (hI h l0 0) ≤ l4) → (¬ l1 = 0) → (l3 = 0) → ((hI h (hR h l0 2) (Int32.toNatClampNeg ((50 * l4) + l2))) = 0) → RR G nc ns m_X6_meetsMissed 5 [some (.ref l0), some (.int l1), some (.int l2), some (.int 0), some (.int (l4 + 1)), none] [] h Z)
    (c9 : (hR h l0 7) ≠ 0)
    (c10 : hK h (hR h l0 7) = 4)
    (c11 : (¬ l1 = 0) → (¬ (hI h l0 0) ≤ l4) → (¬ l1 = 0) → (l3 = 0) → (¬ (hI h (hR h l0 2) (Int32.toNatClampNeg ((50 * l4) + l2))) = 0) → (¬ l1 = 0) → vp_in l4 (hL h (hR h l0 7)))
    (k12 : (¬ l1 = 0) → (¬ (hI h l0 0) ≤ l4) → (¬ l1 = 0) → (l3 = 0) → (¬ (hI h (hR h l0 2) (Int32.toNatClampNeg ((50 * l4) + l2))) = 0) → (¬ l1 = 0) → ((hI h (hR h l0 7) (Int32.toNatClampNeg l4)) = 0) → RR G nc ns m_X6_meetsMissed 5 [some (.ref l0), some (.int l1), some (.int l2), some (.int 0), some (.int (l4 + 1)), none] [] h Z)
    (k13 : (¬ l1 = 0) → (¬ (hI h l0 0) ≤ l4) → (¬ l1 = 0) → (l3 = 0) → (¬ (hI h (hR h l0 2) (Int32.toNatClampNeg ((50 * l4) + l2))) = 0) → (¬ l1 = 0) → (¬ (hI h (hR h l0 7) (Int32.toNatClampNeg l4)) = 0) → RR G nc ns m_X6_meetsMissed 5 [some (.ref l0), some (.int l1), some (.int l2), some (.int 1), some (.int (l4 + 1)), none] [] h Z)
    (c14 : (hR h l0 8) ≠ 0)
    (c15 : hK h (hR h l0 8) = 4)
    (c16 : (¬ l1 = 0) → (¬ (hI h l0 0) ≤ l4) → (¬ l1 = 0) → (l3 = 0) → (¬ (hI h (hR h l0 2) (Int32.toNatClampNeg ((50 * l4) + l2))) = 0) → (l1 = 0) → vp_in l4 (hL h (hR h l0 8)))
    (k17 : (¬ l1 = 0) → (¬ (hI h l0 0) ≤ l4) → (¬ l1 = 0) → (l3 = 0) → (¬ (hI h (hR h l0 2) (Int32.toNatClampNeg ((50 * l4) + l2))) = 0) → (l1 = 0) → ((hI h (hR h l0 8) (Int32.toNatClampNeg l4)) = 0) → RR G nc ns m_X6_meetsMissed 5 [some (.ref l0), some (.int l1), some (.int l2), some (.int 0), some (.int (l4 + 1)), none] [] h Z)
    (k18 : (¬ l1 = 0) → (¬ (hI h l0 0) ≤ l4) → (¬ l1 = 0) → (l3 = 0) → (¬ (hI h (hR h l0 2) (Int32.toNatClampNeg ((50 * l4) + l2))) = 0) → (l1 = 0) → (¬ (hI h (hR h l0 8) (Int32.toNatClampNeg l4)) = 0) → RR G nc ns m_X6_meetsMissed 5 [some (.ref l0), some (.int l1), some (.int l2), some (.int 1), some (.int (l4 + 1)), none] [] h Z)
    (c19 : (¬ l1 = 0) → (¬ (hI h l0 0) ≤ l4) → (l1 = 0) → vp_in ((50 * l2) + l4) (hL h (hR h l0 2)))
    (k20 : (¬ l1 = 0) → (¬ (hI h l0 0) ≤ l4) → (l1 = 0) → (¬ l3 = 0) → RR G nc ns m_X6_meetsMissed 5 [some (.ref l0), some (.int l1), some (.int l2), some (.int 1), some (.int (l4 + 1)), none] [] h Z)
    (k21 : (¬ l1 = 0) → (¬ (hI h l0 0) ≤ l4) → (l1 = 0) → (l3 = 0) → ((hI h (hR h l0 2) (Int32.toNatClampNeg ((50 * l2) + l4))) = 0) → RR G nc ns m_X6_meetsMissed 5 [some (.ref l0), some (.int l1), some (.int l2), some (.int 0), some (.int (l4 + 1)), none] [] h Z)
    (c22 : (¬ l1 = 0) → (¬ (hI h l0 0) ≤ l4) → (l1 = 0) → (l3 = 0) → (¬ (hI h (hR h l0 2) (Int32.toNatClampNeg ((50 * l2) + l4))) = 0) → (¬ l1 = 0) → vp_in l4 (hL h (hR h l0 7)))
    (k23 : (¬ l1 = 0) → (¬ (hI h l0 0) ≤ l4) → (l1 = 0) → (l3 = 0) → (¬ (hI h (hR h l0 2) (Int32.toNatClampNeg ((50 * l2) + l4))) = 0) → (¬ l1 = 0) → ((hI h (hR h l0 7) (Int32.toNatClampNeg l4)) = 0) → RR G nc ns m_X6_meetsMissed 5 [some (.ref l0), some (.int l1), some (.int l2), some (.int 0), some (.int (l4 + 1)), none] [] h Z)
    (k24 : (¬ l1 = 0) → (¬ (hI h l0 0) ≤ l4) → (l1 = 0) → (l3 = 0) → (¬ (hI h (hR h l0 2) (Int32.toNatClampNeg ((50 * l2) + l4))) = 0) → (¬ l1 = 0) → (¬ (hI h (hR h l0 7) (Int32.toNatClampNeg l4)) = 0) → RR G nc ns m_X6_meetsMissed 5 [some (.ref l0), some (.int l1), some (.int l2), some (.int 1), some (.int (l4 + 1)), none] [] h Z)
    (c25 : (¬ l1 = 0) → (¬ (hI h l0 0) ≤ l4) → (l1 = 0) → (l3 = 0) → (¬ (hI h (hR h l0 2) (Int32.toNatClampNeg ((50 * l2) + l4))) = 0) → (l1 = 0) → vp_in l4 (hL h (hR h l0 8)))
    (k26 : (¬ l1 = 0) → (¬ (hI h l0 0) ≤ l4) → (l1 = 0) → (l3 = 0) → (¬ (hI h (hR h l0 2) (Int32.toNatClampNeg ((50 * l2) + l4))) = 0) → (l1 = 0) → ((hI h (hR h l0 8) (Int32.toNatClampNeg l4)) = 0) → RR G nc ns m_X6_meetsMissed 5 [some (.ref l0), some (.int l1), some (.int l2), some (.int 0), some (.int (l4 + 1)), none] [] h Z)
    (k27 : (¬ l1 = 0) → (¬ (hI h l0 0) ≤ l4) → (l1 = 0) → (l3 = 0) → (¬ (hI h (hR h l0 2) (Int32.toNatClampNeg ((50 * l2) + l4))) = 0) → (l1 = 0) → (¬ (hI h (hR h l0 8) (Int32.toNatClampNeg l4)) = 0) → RR G nc ns m_X6_meetsMissed 5 [some (.ref l0), some (.int l1), some (.int l2), some (.int 1), some (.int (l4 + 1)), none] [] h Z)
    (k28 : (l1 = 0) → ((hI h l0 1) ≤ l4) → Z (some (.int l3)) h)
    (c29 : (l1 = 0) → ((hI h l0 1) ≤ l4) → (l3 = 0 ∨ l3 = 1))
    (c30 : (l1 = 0) → (¬ (hI h l0 1) ≤ l4) → (¬ l1 = 0) → vp_in ((50 * l4) + l2) (hL h (hR h l0 2)))
    (k31 : (l1 = 0) → (¬ (hI h l0 1) ≤ l4) → (¬ l1 = 0) → (¬ l3 = 0) → RR G nc ns m_X6_meetsMissed 5 [some (.ref l0), some (.int l1), some (.int l2), some (.int 1), some (.int (l4 + 1)), none] [] h Z)
    (k32 : (l1 = 0) → (¬ (hI h l0 1) ≤ l4) → (¬ l1 = 0) → (l3 = 0) → ((hI h (hR h l0 2) (Int32.toNatClampNeg ((50 * l4) + l2))) = 0) → RR G nc ns m_X6_meetsMissed 5 [some (.ref l0), some (.int l1), some (.int l2), some (.int 0), some (.int (l4 + 1)), none] [] h Z)
    (c33 : (l1 = 0) → (¬ (hI h l0 1) ≤ l4) → (¬ l1 = 0) → (l3 = 0) → (¬ (hI h (hR h l0 2) (Int32.toNatClampNeg ((50 * l4) + l2))) = 0) → (¬ l1 = 0) → vp_in l4 (hL h (hR h l0 7)))
    (k34 : (l1 = 0) → (¬ (hI h l0 1) ≤ l4) → (¬ l1 = 0) → (l3 = 0) → (¬ (hI h (hR h l0 2) (Int32.toNatClampNeg ((50 * l4) + l2))) = 0) → (¬ l1 = 0) → ((hI h (hR h l0 7) (Int32.toNatClampNeg l4)) = 0) → RR G nc ns m_X6_meetsMissed 5 [some (.ref l0), some (.int l1), some (.int l2), some (.int 0), some (.int (l4 + 1)), none] [] h Z)
    (k35 : (l1 = 0) → (¬ (hI h l0 1) ≤ l4) → (¬ l1 = 0) → (l3 = 0) → (¬ (hI h (hR h l0 2) (Int32.toNatClampNeg ((50 * l4) + l2))) = 0) → (¬ l1 = 0) → (¬ (hI h (hR h l0 7) (Int32.toNatClampNeg l4)) = 0) → RR G nc ns m_X6_meetsMissed 5 [some (.ref l0), some (.int l1), some (.int l2), some (.int 1), some (.int (l4 + 1)), none] [] h Z)
    (c36 : (l1 = 0) → (¬ (hI h l0 1) ≤ l4) → (¬ l1 = 0) → (l3 = 0) → (¬ (hI h (hR h l0 2) (Int32.toNatClampNeg ((50 * l4) + l2))) = 0) → (l1 = 0) → vp_in l4 (hL h (hR h l0 8)))
    (k37 : (l1 = 0) → (¬ (hI h l0 1) ≤ l4) → (¬ l1 = 0) → (l3 = 0) → (¬ (hI h (hR h l0 2) (Int32.toNatClampNeg ((50 * l4) + l2))) = 0) → (l1 = 0) → ((hI h (hR h l0 8) (Int32.toNatClampNeg l4)) = 0) → RR G nc ns m_X6_meetsMissed 5 [some (.ref l0), some (.int l1), some (.int l2), some (.int 0), some (.int (l4 + 1)), none] [] h Z)
    (k38 : (l1 = 0) → (¬ (hI h l0 1) ≤ l4) → (¬ l1 = 0) → (l3 = 0) → (¬ (hI h (hR h l0 2) (Int32.toNatClampNeg ((50 * l4) + l2))) = 0) → (l1 = 0) → (¬ (hI h (hR h l0 8) (Int32.toNatClampNeg l4)) = 0) → RR G nc ns m_X6_meetsMissed 5 [some (.ref l0), some (.int l1), some (.int l2), some (.int 1), some (.int (l4 + 1)), none] [] h Z)
    (c39 : (l1 = 0) → (¬ (hI h l0 1) ≤ l4) → (l1 = 0) → vp_in ((50 * l2) + l4) (hL h (hR h l0 2)))
    (k40 : (l1 = 0) → (¬ (hI h l0 1) ≤ l4) → (l1 = 0) → (¬ l3 = 0) → RR G nc ns m_X6_meetsMissed 5 [some (.ref l0), some (.int l1), some (.int l2), some (.int 1), some (.int (l4 + 1)), none] [] h Z)
    (k41 : (l1 = 0) → (¬ (hI h l0 1) ≤ l4) → (l1 = 0) → (l3 = 0) → ((hI h (hR h l0 2) (Int32.toNatClampNeg ((50 * l2) + l4))) = 0) → RR G nc ns m_X6_meetsMissed 5 [some (.ref l0), some (.int l1), some (.int l2), some (.int 0), some (.int (l4 + 1)), none] [] h Z)
    (c42 : (l1 = 0) → (¬ (hI h l0 1) ≤ l4) → (l1 = 0) → (l3 = 0) → (¬ (hI h (hR h l0 2) (Int32.toNatClampNeg ((50 * l2) + l4))) = 0) → (¬ l1 = 0) → vp_in l4 (hL h (hR h l0 7)))
    (k43 : (l1 = 0) → (¬ (hI h l0 1) ≤ l4) → (l1 = 0) → (l3 = 0) → (¬ (hI h (hR h l0 2) (Int32.toNatClampNeg ((50 * l2) + l4))) = 0) → (¬ l1 = 0) → ((hI h (hR h l0 7) (Int32.toNatClampNeg l4)) = 0) → RR G nc ns m_X6_meetsMissed 5 [some (.ref l0), some (.int l1), some (.int l2), some (.int 0), some (.int (l4 + 1)), none] [] h Z)
    (k44 : (l1 = 0) → (¬ (hI h l0 1) ≤ l4) → (l1 = 0) → (l3 = 0) → (¬ (hI h (hR h l0 2) (Int32.toNatClampNeg ((50 * l2) + l4))) = 0) → (¬ l1 = 0) → (¬ (hI h (hR h l0 7) (Int32.toNatClampNeg l4)) = 0) → RR G nc ns m_X6_meetsMissed 5 [some (.ref l0), some (.int l1), some (.int l2), some (.int 1), some (.int (l4 + 1)), none] [] h Z)
    (c45 : (l1 = 0) → (¬ (hI h l0 1) ≤ l4) → (l1 = 0) → (l3 = 0) → (¬ (hI h (hR h l0 2) (Int32.toNatClampNeg ((50 * l2) + l4))) = 0) → (l1 = 0) → vp_in l4 (hL h (hR h l0 8)))
    (k46 : (l1 = 0) → (¬ (hI h l0 1) ≤ l4) → (l1 = 0) → (l3 = 0) → (¬ (hI h (hR h l0 2) (Int32.toNatClampNeg ((50 * l2) + l4))) = 0) → (l1 = 0) → ((hI h (hR h l0 8) (Int32.toNatClampNeg l4)) = 0) → RR G nc ns m_X6_meetsMissed 5 [some (.ref l0), some (.int l1), some (.int l2), some (.int 0), some (.int (l4 + 1)), none] [] h Z)
    (k47 : (l1 = 0) → (¬ (hI h l0 1) ≤ l4) → (l1 = 0) → (l3 = 0) → (¬ (hI h (hR h l0 2) (Int32.toNatClampNeg ((50 * l2) + l4))) = 0) → (l1 = 0) → (¬ (hI h (hR h l0 8) (Int32.toNatClampNeg l4)) = 0) → RR G nc ns m_X6_meetsMissed 5 [some (.ref l0), some (.int l1), some (.int l2), some (.int 1), some (.int (l4 + 1)), none] [] h Z) :
    RR G nc ns m_X6_meetsMissed 5 [some (.ref l0), some (.int l1), some (.int l2), some (.int l3), some (.int l4), none] [] h Z := by
  refine r_iload dX6_meetsMissed_5 rfl ?_
  refine r_iload_n dX6_meetsMissed_7 rfl ?_
  refine r_if_ne 18 dX6_meetsMissed_8 (by decide) (fun q1 => ?_) (fun q1 => ?_)
  · refine r_aload_n dX6_meetsMissed_18 rfl ?_
    refine r_get (c := 6) (k := 0) dX6_meetsMissed_19 rfl rfl (by decide) fl_RX6_126 (c1) rfl ?_
    refine r_icmp_ge 106 dX6_meetsMissed_22 (by decide) (fun q2 => ?_) (fun q2 => ?_)
    · refine r_iload_n dX6_meetsMissed_106 rfl ?_
      exact r_zreturn dX6_meetsMissed_107 rfl (c3 q1 q2) (k2 q1 q2)
    · refine r_iload_n dX6_meetsMissed_25 rfl ?_
      refine r_if_ne 44 dX6_meetsMissed_26 (by decide) (fun q3 => ?_) (fun q3 => ?_)
      · refine r_aload_n dX6_meetsMissed_44 rfl ?_
        refine r_getR (c := 6) (k := 2) dX6_meetsMissed_45 rfl rfl (by decide) fl_RX6_7 (c1) rfl (c4) ?_
        refine r_bipush (v := 50) dX6_meetsMissed_48 (by decide) ?_
        refine r_iload dX6_meetsMissed_50 rfl ?_
        refine r_imul dX6_meetsMissed_52 ?_
        refine r_iload_n dX6_meetsMissed_53 rfl ?_
        refine r_iadd dX6_meetsMissed_54 ?_
        refine r_baloadJ (Int32.toNatClampNeg ((50 * l4) + l2)) dX6_meetsMissed_55 (c5) (c6 q1 q2 q3) rfl ?_
        refine r_istoreL [some (.ref l0), some (.int l1), some (.int l2), some (.int l3), some (.int l4), some (.int (hI h (hR h l0 2) (Int32.toNatClampNeg ((50 * l4) + l2))))] dX6_meetsMissed_56 (by decide) rfl ?_
        refine r_iload_n dX6_meetsMissed_58 rfl ?_
        refine r_if_ne 94 dX6_meetsMissed_59 (by decide) (fun q4 => ?_) (fun q4 => ?_)
        · refine r_iconst (v := 1) dX6_meetsMissed_94 (by decide) ?_
          refine r_goto (tgt := 99) dX6_meetsMissed_95 (by decide) ?_
          refine r_istore_nL [some (.ref l0), some (.int l1), some (.int l2), some (.int 1), some (.int l4), some (.int (hI h (hR h l0 2) (Int32.toNatClampNeg ((50 * l4) + l2))))] dX6_meetsMissed_99 (by decide) rfl ?_
          refine r_iincL (v := l4 + 1) [some (.ref l0), some (.int l1), some (.int l2), some (.int 1), some (.int (l4 + 1)), some (.int (hI h (hR h l0 2) (Int32.toNatClampNeg ((50 * l4) + l2))))] dX6_meetsMissed_100 rfl (by decide) rfl rfl ?_
          refine r_goto (tgt := 5) dX6_meetsMissed_103 (by decide) ?_
          exact RR.sub (k7 q1 q2 q3 q4) (And.intro rfl (And.intro rfl (And.intro rfl (And.intro rfl (And.intro rfl (trivial))))))
        · refine r_iload dX6_meetsMissed_62 rfl ?_
          refine r_if_eq 98 dX6_meetsMissed_64 (by decide) (fun q5 => ?_) (fun q5 => ?_)
          · refine r_iconst (v := 0) dX6_meetsMissed_98 (by decide) ?_
            refine r_istore_nL [some (.ref l0), some (.int l1), some (.int l2), some (.int 0), some (.int l4), some (.int (hI h (hR h l0 2) (Int32.toNatClampNeg ((50 * l4) + l2))))] dX6_meetsMissed_99 (by decide) rfl ?_
            refine r_iincL (v := l4 + 1) [some (.ref l0), some (.int l1), some (.int l2), some (.int 0), some (.int (l4 + 1)), some (.int (hI h (hR h l0 2) (Int32.toNatClampNeg ((50 * l4) + l2))))] dX6_meetsMissed_100 rfl (by decide) rfl rfl ?_
            refine r_goto (tgt := 5) dX6_meetsMissed_103 (by decide) ?_
            exact RR.sub (k8 q1 q2 q3 q4 q5) (And.intro rfl (And.intro rfl (And.intro rfl (And.intro rfl (And.intro rfl (trivial))))))
          · refine r_iload_n dX6_meetsMissed_67 rfl ?_
            refine r_if_ne 84 dX6_meetsMissed_68 (by decide) (fun q6 => ?_) (fun q6 => ?_)
            · refine r_aload_n dX6_meetsMissed_84 rfl ?_
              refine r_getR (c := 6) (k := 7) dX6_meetsMissed_85 rfl rfl (by decide) fl_RX6_20 (c1) rfl (c9) ?_
              refine r_iload dX6_meetsMissed_88 rfl ?_
              refine r_baloadJ (Int32.toNatClampNeg l4) dX6_meetsMissed_90 (c10) (c11 q1 q2 q3 q4 q5 q6) rfl ?_
              refine r_if_eq 98 dX6_meetsMissed_91 (by decide) (fun q7 => ?_) (fun q7 => ?_)
              · refine r_iconst (v := 0) dX6_meetsMissed_98 (by decide) ?_
                refine r_istore_nL [some (.ref l0), some (.int l1), some (.int l2), some (.int 0), some (.int l4), some (.int (hI h (hR h l0 2) (Int32.toNatClampNeg ((50 * l4) + l2))))] dX6_meetsMissed_99 (by decide) rfl ?_
                refine r_iincL (v := l4 + 1) [some (.ref l0), some (.int l1), some (.int l2), some (.int 0), some (.int (l4 + 1)), some (.int (hI h (hR h l0 2) (Int32.toNatClampNeg ((50 * l4) + l2))))] dX6_meetsMissed_100 rfl (by decide) rfl rfl ?_
                refine r_goto (tgt := 5) dX6_meetsMissed_103 (by decide) ?_
                exact RR.sub (k12 q1 q2 q3 q4 q5 q6 q7) (And.intro rfl (And.intro rfl (And.intro rfl (And.intro rfl (And.intro rfl (trivial))))))
              · refine r_iconst (v := 1) dX6_meetsMissed_94 (by decide) ?_
                refine r_goto (tgt := 99) dX6_meetsMissed_95 (by decide) ?_
                refine r_istore_nL [some (.ref l0), some (.int l1), some (.int l2), some (.int 1), some (.int l4), some (.int (hI h (hR h l0 2) (Int32.toNatClampNeg ((50 * l4) + l2))))] dX6_meetsMissed_99 (by decide) rfl ?_
                refine r_iincL (v := l4 + 1) [some (.ref l0), some (.int l1), some (.int l2), some (.int 1), some (.int (l4 + 1)), some (.int (hI h (hR h l0 2) (Int32.toNatClampNeg ((50 * l4) + l2))))] dX6_meetsMissed_100 rfl (by decide) rfl rfl ?_
                refine r_goto (tgt := 5) dX6_meetsMissed_103 (by decide) ?_
                exact RR.sub (k13 q1 q2 q3 q4 q5 q6 q7) (And.intro rfl (And.intro rfl (And.intro rfl (And.intro rfl (And.intro rfl (trivial))))))
            · refine r_aload_n dX6_meetsMissed_71 rfl ?_
              refine r_getR (c := 6) (k := 8) dX6_meetsMissed_72 rfl rfl (by decide) fl_RX6_23 (c1) rfl (c14) ?_
              refine r_iload dX6_meetsMissed_75 rfl ?_
              refine r_baloadJ (Int32.toNatClampNeg l4) dX6_meetsMissed_77 (c15) (c16 q1 q2 q3 q4 q5 q6) rfl ?_
              refine r_if_eq 98 dX6_meetsMissed_78 (by decide) (fun q8 => ?_) (fun q8 => ?_)
              · refine r_iconst (v := 0) dX6_meetsMissed_98 (by decide) ?_
                refine r_istore_nL [some (.ref l0), some (.int l1), some (.int l2), some (.int 0), some (.int l4), some (.int (hI h (hR h l0 2) (Int32.toNatClampNeg ((50 * l4) + l2))))] dX6_meetsMissed_99 (by decide) rfl ?_
                refine r_iincL (v := l4 + 1) [some (.ref l0), some (.int l1), some (.int l2), some (.int 0), some (.int (l4 + 1)), some (.int (hI h (hR h l0 2) (Int32.toNatClampNeg ((50 * l4) + l2))))] dX6_meetsMissed_100 rfl (by decide) rfl rfl ?_
                refine r_goto (tgt := 5) dX6_meetsMissed_103 (by decide) ?_
                exact RR.sub (k17 q1 q2 q3 q4 q5 q6 q8) (And.intro rfl (And.intro rfl (And.intro rfl (And.intro rfl (And.intro rfl (trivial))))))
              · refine r_goto (tgt := 94) dX6_meetsMissed_81 (by decide) ?_
                refine r_iconst (v := 1) dX6_meetsMissed_94 (by decide) ?_
                refine r_goto (tgt := 99) dX6_meetsMissed_95 (by decide) ?_
                refine r_istore_nL [some (.ref l0), some (.int l1), some (.int l2), some (.int 1), some (.int l4), some (.int (hI h (hR h l0 2) (Int32.toNatClampNeg ((50 * l4) + l2))))] dX6_meetsMissed_99 (by decide) rfl ?_
                refine r_iincL (v := l4 + 1) [some (.ref l0), some (.int l1), some (.int l2), some (.int 1), some (.int (l4 + 1)), some (.int (hI h (hR h l0 2) (Int32.toNatClampNeg ((50 * l4) + l2))))] dX6_meetsMissed_100 rfl (by decide) rfl rfl ?_
                refine r_goto (tgt := 5) dX6_meetsMissed_103 (by decide) ?_
                exact RR.sub (k18 q1 q2 q3 q4 q5 q6 q8) (And.intro rfl (And.intro rfl (And.intro rfl (And.intro rfl (And.intro rfl (trivial))))))
      · refine r_aload_n dX6_meetsMissed_29 rfl ?_
        refine r_getR (c := 6) (k := 2) dX6_meetsMissed_30 rfl rfl (by decide) fl_RX6_7 (c1) rfl (c4) ?_
        refine r_bipush (v := 50) dX6_meetsMissed_33 (by decide) ?_
        refine r_iload_n dX6_meetsMissed_35 rfl ?_
        refine r_imul dX6_meetsMissed_36 ?_
        refine r_iload dX6_meetsMissed_37 rfl ?_
        refine r_iadd dX6_meetsMissed_39 ?_
        refine r_baloadJ (Int32.toNatClampNeg ((50 * l2) + l4)) dX6_meetsMissed_40 (c5) (c19 q1 q2 q3) rfl ?_
        refine r_goto (tgt := 56) dX6_meetsMissed_41 (by decide) ?_
        refine r_istoreL [some (.ref l0), some (.int l1), some (.int l2), some (.int l3), some (.int l4), some (.int (hI h (hR h l0 2) (Int32.toNatClampNeg ((50 * l2) + l4))))] dX6_meetsMissed_56 (by decide) rfl ?_
        refine r_iload_n dX6_meetsMissed_58 rfl ?_
        refine r_if_ne 94 dX6_meetsMissed_59 (by decide) (fun q9 => ?_) (fun q9 => ?_)
        · refine r_iconst (v := 1) dX6_meetsMissed_94 (by decide) ?_
          refine r_goto (tgt := 99) dX6_meetsMissed_95 (by decide) ?_
          refine r_istore_nL [some (.ref l0), some (.int l1), some (.int l2), some (.int 1), some (.int l4), some (.int (hI h (hR h l0 2) (Int32.toNatClampNeg ((50 * l2) + l4))))] dX6_meetsMissed_99 (by decide) rfl ?_
          refine r_iincL (v := l4 + 1) [some (.ref l0), some (.int l1), some (.int l2), some (.int 1), some (.int (l4 + 1)), some (.int (hI h (hR h l0 2) (Int32.toNatClampNeg ((50 * l2) + l4))))] dX6_meetsMissed_100 rfl (by decide) rfl rfl ?_
          refine r_goto (tgt := 5) dX6_meetsMissed_103 (by decide) ?_
          exact RR.sub (k20 q1 q2 q3 q9) (And.intro rfl (And.intro rfl (And.intro rfl (And.intro rfl (And.intro rfl (trivial))))))
        · refine r_iload dX6_meetsMissed_62 rfl ?_
          refine r_if_eq 98 dX6_meetsMissed_64 (by decide) (fun q10 => ?_) (fun q10 => ?_)
          · refine r_iconst (v := 0) dX6_meetsMissed_98 (by decide) ?_
            refine r_istore_nL [some (.ref l0), some (.int l1), some (.int l2), some (.int 0), some (.int l4), some (.int (hI h (hR h l0 2) (Int32.toNatClampNeg ((50 * l2) + l4))))] dX6_meetsMissed_99 (by decide) rfl ?_
            refine r_iincL (v := l4 + 1) [some (.ref l0), some (.int l1), some (.int l2), some (.int 0), some (.int (l4 + 1)), some (.int (hI h (hR h l0 2) (Int32.toNatClampNeg ((50 * l2) + l4))))] dX6_meetsMissed_100 rfl (by decide) rfl rfl ?_
            refine r_goto (tgt := 5) dX6_meetsMissed_103 (by decide) ?_
            exact RR.sub (k21 q1 q2 q3 q9 q10) (And.intro rfl (And.intro rfl (And.intro rfl (And.intro rfl (And.intro rfl (trivial))))))
          · refine r_iload_n dX6_meetsMissed_67 rfl ?_
            refine r_if_ne 84 dX6_meetsMissed_68 (by decide) (fun q11 => ?_) (fun q11 => ?_)
            · refine r_aload_n dX6_meetsMissed_84 rfl ?_
              refine r_getR (c := 6) (k := 7) dX6_meetsMissed_85 rfl rfl (by decide) fl_RX6_20 (c1) rfl (c9) ?_
              refine r_iload dX6_meetsMissed_88 rfl ?_
              refine r_baloadJ (Int32.toNatClampNeg l4) dX6_meetsMissed_90 (c10) (c22 q1 q2 q3 q9 q10 q11) rfl ?_
              refine r_if_eq 98 dX6_meetsMissed_91 (by decide) (fun q12 => ?_) (fun q12 => ?_)
              · refine r_iconst (v := 0) dX6_meetsMissed_98 (by decide) ?_
                refine r_istore_nL [some (.ref l0), some (.int l1), some (.int l2), some (.int 0), some (.int l4), some (.int (hI h (hR h l0 2) (Int32.toNatClampNeg ((50 * l2) + l4))))] dX6_meetsMissed_99 (by decide) rfl ?_
                refine r_iincL (v := l4 + 1) [some (.ref l0), some (.int l1), some (.int l2), some (.int 0), some (.int (l4 + 1)), some (.int (hI h (hR h l0 2) (Int32.toNatClampNeg ((50 * l2) + l4))))] dX6_meetsMissed_100 rfl (by decide) rfl rfl ?_
                refine r_goto (tgt := 5) dX6_meetsMissed_103 (by decide) ?_
                exact RR.sub (k23 q1 q2 q3 q9 q10 q11 q12) (And.intro rfl (And.intro rfl (And.intro rfl (And.intro rfl (And.intro rfl (trivial))))))
              · refine r_iconst (v := 1) dX6_meetsMissed_94 (by decide) ?_
                refine r_goto (tgt := 99) dX6_meetsMissed_95 (by decide) ?_
                refine r_istore_nL [some (.ref l0), some (.int l1), some (.int l2), some (.int 1), some (.int l4), some (.int (hI h (hR h l0 2) (Int32.toNatClampNeg ((50 * l2) + l4))))] dX6_meetsMissed_99 (by decide) rfl ?_
                refine r_iincL (v := l4 + 1) [some (.ref l0), some (.int l1), some (.int l2), some (.int 1), some (.int (l4 + 1)), some (.int (hI h (hR h l0 2) (Int32.toNatClampNeg ((50 * l2) + l4))))] dX6_meetsMissed_100 rfl (by decide) rfl rfl ?_
                refine r_goto (tgt := 5) dX6_meetsMissed_103 (by decide) ?_
                exact RR.sub (k24 q1 q2 q3 q9 q10 q11 q12) (And.intro rfl (And.intro rfl (And.intro rfl (And.intro rfl (And.intro rfl (trivial))))))
            · refine r_aload_n dX6_meetsMissed_71 rfl ?_
              refine r_getR (c := 6) (k := 8) dX6_meetsMissed_72 rfl rfl (by decide) fl_RX6_23 (c1) rfl (c14) ?_
              refine r_iload dX6_meetsMissed_75 rfl ?_
              refine r_baloadJ (Int32.toNatClampNeg l4) dX6_meetsMissed_77 (c15) (c25 q1 q2 q3 q9 q10 q11) rfl ?_
              refine r_if_eq 98 dX6_meetsMissed_78 (by decide) (fun q13 => ?_) (fun q13 => ?_)
              · refine r_iconst (v := 0) dX6_meetsMissed_98 (by decide) ?_
                refine r_istore_nL [some (.ref l0), some (.int l1), some (.int l2), some (.int 0), some (.int l4), some (.int (hI h (hR h l0 2) (Int32.toNatClampNeg ((50 * l2) + l4))))] dX6_meetsMissed_99 (by decide) rfl ?_
                refine r_iincL (v := l4 + 1) [some (.ref l0), some (.int l1), some (.int l2), some (.int 0), some (.int (l4 + 1)), some (.int (hI h (hR h l0 2) (Int32.toNatClampNeg ((50 * l2) + l4))))] dX6_meetsMissed_100 rfl (by decide) rfl rfl ?_
                refine r_goto (tgt := 5) dX6_meetsMissed_103 (by decide) ?_
                exact RR.sub (k26 q1 q2 q3 q9 q10 q11 q13) (And.intro rfl (And.intro rfl (And.intro rfl (And.intro rfl (And.intro rfl (trivial))))))
              · refine r_goto (tgt := 94) dX6_meetsMissed_81 (by decide) ?_
                refine r_iconst (v := 1) dX6_meetsMissed_94 (by decide) ?_
                refine r_goto (tgt := 99) dX6_meetsMissed_95 (by decide) ?_
                refine r_istore_nL [some (.ref l0), some (.int l1), some (.int l2), some (.int 1), some (.int l4), some (.int (hI h (hR h l0 2) (Int32.toNatClampNeg ((50 * l2) + l4))))] dX6_meetsMissed_99 (by decide) rfl ?_
                refine r_iincL (v := l4 + 1) [some (.ref l0), some (.int l1), some (.int l2), some (.int 1), some (.int (l4 + 1)), some (.int (hI h (hR h l0 2) (Int32.toNatClampNeg ((50 * l2) + l4))))] dX6_meetsMissed_100 rfl (by decide) rfl rfl ?_
                refine r_goto (tgt := 5) dX6_meetsMissed_103 (by decide) ?_
                exact RR.sub (k27 q1 q2 q3 q9 q10 q11 q13) (And.intro rfl (And.intro rfl (And.intro rfl (And.intro rfl (And.intro rfl (trivial))))))
  · refine r_aload_n dX6_meetsMissed_11 rfl ?_
    refine r_get (c := 6) (k := 1) dX6_meetsMissed_12 rfl rfl (by decide) fl_RX6_129 (c1) rfl ?_
    refine r_goto (tgt := 22) dX6_meetsMissed_15 (by decide) ?_
    refine r_icmp_ge 106 dX6_meetsMissed_22 (by decide) (fun q14 => ?_) (fun q14 => ?_)
    · refine r_iload_n dX6_meetsMissed_106 rfl ?_
      exact r_zreturn dX6_meetsMissed_107 rfl (c29 q1 q14) (k28 q1 q14)
    · refine r_iload_n dX6_meetsMissed_25 rfl ?_
      refine r_if_ne 44 dX6_meetsMissed_26 (by decide) (fun q15 => ?_) (fun q15 => ?_)
      · refine r_aload_n dX6_meetsMissed_44 rfl ?_
        refine r_getR (c := 6) (k := 2) dX6_meetsMissed_45 rfl rfl (by decide) fl_RX6_7 (c1) rfl (c4) ?_
        refine r_bipush (v := 50) dX6_meetsMissed_48 (by decide) ?_
        refine r_iload dX6_meetsMissed_50 rfl ?_
        refine r_imul dX6_meetsMissed_52 ?_
        refine r_iload_n dX6_meetsMissed_53 rfl ?_
        refine r_iadd dX6_meetsMissed_54 ?_
        refine r_baloadJ (Int32.toNatClampNeg ((50 * l4) + l2)) dX6_meetsMissed_55 (c5) (c30 q1 q14 q15) rfl ?_
        refine r_istoreL [some (.ref l0), some (.int l1), some (.int l2), some (.int l3), some (.int l4), some (.int (hI h (hR h l0 2) (Int32.toNatClampNeg ((50 * l4) + l2))))] dX6_meetsMissed_56 (by decide) rfl ?_
        refine r_iload_n dX6_meetsMissed_58 rfl ?_
        refine r_if_ne 94 dX6_meetsMissed_59 (by decide) (fun q16 => ?_) (fun q16 => ?_)
        · refine r_iconst (v := 1) dX6_meetsMissed_94 (by decide) ?_
          refine r_goto (tgt := 99) dX6_meetsMissed_95 (by decide) ?_
          refine r_istore_nL [some (.ref l0), some (.int l1), some (.int l2), some (.int 1), some (.int l4), some (.int (hI h (hR h l0 2) (Int32.toNatClampNeg ((50 * l4) + l2))))] dX6_meetsMissed_99 (by decide) rfl ?_
          refine r_iincL (v := l4 + 1) [some (.ref l0), some (.int l1), some (.int l2), some (.int 1), some (.int (l4 + 1)), some (.int (hI h (hR h l0 2) (Int32.toNatClampNeg ((50 * l4) + l2))))] dX6_meetsMissed_100 rfl (by decide) rfl rfl ?_
          refine r_goto (tgt := 5) dX6_meetsMissed_103 (by decide) ?_
          exact RR.sub (k31 q1 q14 q15 q16) (And.intro rfl (And.intro rfl (And.intro rfl (And.intro rfl (And.intro rfl (trivial))))))
        · refine r_iload dX6_meetsMissed_62 rfl ?_
          refine r_if_eq 98 dX6_meetsMissed_64 (by decide) (fun q17 => ?_) (fun q17 => ?_)
          · refine r_iconst (v := 0) dX6_meetsMissed_98 (by decide) ?_
            refine r_istore_nL [some (.ref l0), some (.int l1), some (.int l2), some (.int 0), some (.int l4), some (.int (hI h (hR h l0 2) (Int32.toNatClampNeg ((50 * l4) + l2))))] dX6_meetsMissed_99 (by decide) rfl ?_
            refine r_iincL (v := l4 + 1) [some (.ref l0), some (.int l1), some (.int l2), some (.int 0), some (.int (l4 + 1)), some (.int (hI h (hR h l0 2) (Int32.toNatClampNeg ((50 * l4) + l2))))] dX6_meetsMissed_100 rfl (by decide) rfl rfl ?_
            refine r_goto (tgt := 5) dX6_meetsMissed_103 (by decide) ?_
            exact RR.sub (k32 q1 q14 q15 q16 q17) (And.intro rfl (And.intro rfl (And.intro rfl (And.intro rfl (And.intro rfl (trivial))))))
          · refine r_iload_n dX6_meetsMissed_67 rfl ?_
            refine r_if_ne 84 dX6_meetsMissed_68 (by decide) (fun q18 => ?_) (fun q18 => ?_)
            · refine r_aload_n dX6_meetsMissed_84 rfl ?_
              refine r_getR (c := 6) (k := 7) dX6_meetsMissed_85 rfl rfl (by decide) fl_RX6_20 (c1) rfl (c9) ?_
              refine r_iload dX6_meetsMissed_88 rfl ?_
              refine r_baloadJ (Int32.toNatClampNeg l4) dX6_meetsMissed_90 (c10) (c33 q1 q14 q15 q16 q17 q18) rfl ?_
              refine r_if_eq 98 dX6_meetsMissed_91 (by decide) (fun q19 => ?_) (fun q19 => ?_)
              · refine r_iconst (v := 0) dX6_meetsMissed_98 (by decide) ?_
                refine r_istore_nL [some (.ref l0), some (.int l1), some (.int l2), some (.int 0), some (.int l4), some (.int (hI h (hR h l0 2) (Int32.toNatClampNeg ((50 * l4) + l2))))] dX6_meetsMissed_99 (by decide) rfl ?_
                refine r_iincL (v := l4 + 1) [some (.ref l0), some (.int l1), some (.int l2), some (.int 0), some (.int (l4 + 1)), some (.int (hI h (hR h l0 2) (Int32.toNatClampNeg ((50 * l4) + l2))))] dX6_meetsMissed_100 rfl (by decide) rfl rfl ?_
                refine r_goto (tgt := 5) dX6_meetsMissed_103 (by decide) ?_
                exact RR.sub (k34 q1 q14 q15 q16 q17 q18 q19) (And.intro rfl (And.intro rfl (And.intro rfl (And.intro rfl (And.intro rfl (trivial))))))
              · refine r_iconst (v := 1) dX6_meetsMissed_94 (by decide) ?_
                refine r_goto (tgt := 99) dX6_meetsMissed_95 (by decide) ?_
                refine r_istore_nL [some (.ref l0), some (.int l1), some (.int l2), some (.int 1), some (.int l4), some (.int (hI h (hR h l0 2) (Int32.toNatClampNeg ((50 * l4) + l2))))] dX6_meetsMissed_99 (by decide) rfl ?_
                refine r_iincL (v := l4 + 1) [some (.ref l0), some (.int l1), some (.int l2), some (.int 1), some (.int (l4 + 1)), some (.int (hI h (hR h l0 2) (Int32.toNatClampNeg ((50 * l4) + l2))))] dX6_meetsMissed_100 rfl (by decide) rfl rfl ?_
                refine r_goto (tgt := 5) dX6_meetsMissed_103 (by decide) ?_
                exact RR.sub (k35 q1 q14 q15 q16 q17 q18 q19) (And.intro rfl (And.intro rfl (And.intro rfl (And.intro rfl (And.intro rfl (trivial))))))
            · refine r_aload_n dX6_meetsMissed_71 rfl ?_
              refine r_getR (c := 6) (k := 8) dX6_meetsMissed_72 rfl rfl (by decide) fl_RX6_23 (c1) rfl (c14) ?_
              refine r_iload dX6_meetsMissed_75 rfl ?_
              refine r_baloadJ (Int32.toNatClampNeg l4) dX6_meetsMissed_77 (c15) (c36 q1 q14 q15 q16 q17 q18) rfl ?_
              refine r_if_eq 98 dX6_meetsMissed_78 (by decide) (fun q20 => ?_) (fun q20 => ?_)
              · refine r_iconst (v := 0) dX6_meetsMissed_98 (by decide) ?_
                refine r_istore_nL [some (.ref l0), some (.int l1), some (.int l2), some (.int 0), some (.int l4), some (.int (hI h (hR h l0 2) (Int32.toNatClampNeg ((50 * l4) + l2))))] dX6_meetsMissed_99 (by decide) rfl ?_
                refine r_iincL (v := l4 + 1) [some (.ref l0), some (.int l1), some (.int l2), some (.int 0), some (.int (l4 + 1)), some (.int (hI h (hR h l0 2) (Int32.toNatClampNeg ((50 * l4) + l2))))] dX6_meetsMissed_100 rfl (by decide) rfl rfl ?_
                refine r_goto (tgt := 5) dX6_meetsMissed_103 (by decide) ?_
                exact RR.sub (k37 q1 q14 q15 q16 q17 q18 q20) (And.intro rfl (And.intro rfl (And.intro rfl (And.intro rfl (And.intro rfl (trivial))))))
              · refine r_goto (tgt := 94) dX6_meetsMissed_81 (by decide) ?_
                refine r_iconst (v := 1) dX6_meetsMissed_94 (by decide) ?_
                refine r_goto (tgt := 99) dX6_meetsMissed_95 (by decide) ?_
                refine r_istore_nL [some (.ref l0), some (.int l1), some (.int l2), some (.int 1), some (.int l4), some (.int (hI h (hR h l0 2) (Int32.toNatClampNeg ((50 * l4) + l2))))] dX6_meetsMissed_99 (by decide) rfl ?_
                refine r_iincL (v := l4 + 1) [some (.ref l0), some (.int l1), some (.int l2), some (.int 1), some (.int (l4 + 1)), some (.int (hI h (hR h l0 2) (Int32.toNatClampNeg ((50 * l4) + l2))))] dX6_meetsMissed_100 rfl (by decide) rfl rfl ?_
                refine r_goto (tgt := 5) dX6_meetsMissed_103 (by decide) ?_
                exact RR.sub (k38 q1 q14 q15 q16 q17 q18 q20) (And.intro rfl (And.intro rfl (And.intro rfl (And.intro rfl (And.intro rfl (trivial))))))
      · refine r_aload_n dX6_meetsMissed_29 rfl ?_
        refine r_getR (c := 6) (k := 2) dX6_meetsMissed_30 rfl rfl (by decide) fl_RX6_7 (c1) rfl (c4) ?_
        refine r_bipush (v := 50) dX6_meetsMissed_33 (by decide) ?_
        refine r_iload_n dX6_meetsMissed_35 rfl ?_
        refine r_imul dX6_meetsMissed_36 ?_
        refine r_iload dX6_meetsMissed_37 rfl ?_
        refine r_iadd dX6_meetsMissed_39 ?_
        refine r_baloadJ (Int32.toNatClampNeg ((50 * l2) + l4)) dX6_meetsMissed_40 (c5) (c39 q1 q14 q15) rfl ?_
        refine r_goto (tgt := 56) dX6_meetsMissed_41 (by decide) ?_
        refine r_istoreL [some (.ref l0), some (.int l1), some (.int l2), some (.int l3), some (.int l4), some (.int (hI h (hR h l0 2) (Int32.toNatClampNeg ((50 * l2) + l4))))] dX6_meetsMissed_56 (by decide) rfl ?_
        refine r_iload_n dX6_meetsMissed_58 rfl ?_
        refine r_if_ne 94 dX6_meetsMissed_59 (by decide) (fun q21 => ?_) (fun q21 => ?_)
        · refine r_iconst (v := 1) dX6_meetsMissed_94 (by decide) ?_
          refine r_goto (tgt := 99) dX6_meetsMissed_95 (by decide) ?_
          refine r_istore_nL [some (.ref l0), some (.int l1), some (.int l2), some (.int 1), some (.int l4), some (.int (hI h (hR h l0 2) (Int32.toNatClampNeg ((50 * l2) + l4))))] dX6_meetsMissed_99 (by decide) rfl ?_
          refine r_iincL (v := l4 + 1) [some (.ref l0), some (.int l1), some (.int l2), some (.int 1), some (.int (l4 + 1)), some (.int (hI h (hR h l0 2) (Int32.toNatClampNeg ((50 * l2) + l4))))] dX6_meetsMissed_100 rfl (by decide) rfl rfl ?_
          refine r_goto (tgt := 5) dX6_meetsMissed_103 (by decide) ?_
          exact RR.sub (k40 q1 q14 q15 q21) (And.intro rfl (And.intro rfl (And.intro rfl (And.intro rfl (And.intro rfl (trivial))))))
        · refine r_iload dX6_meetsMissed_62 rfl ?_
          refine r_if_eq 98 dX6_meetsMissed_64 (by decide) (fun q22 => ?_) (fun q22 => ?_)
          · refine r_iconst (v := 0) dX6_meetsMissed_98 (by decide) ?_
            refine r_istore_nL [some (.ref l0), some (.int l1), some (.int l2), some (.int 0), some (.int l4), some (.int (hI h (hR h l0 2) (Int32.toNatClampNeg ((50 * l2) + l4))))] dX6_meetsMissed_99 (by decide) rfl ?_
            refine r_iincL (v := l4 + 1) [some (.ref l0), some (.int l1), some (.int l2), some (.int 0), some (.int (l4 + 1)), some (.int (hI h (hR h l0 2) (Int32.toNatClampNeg ((50 * l2) + l4))))] dX6_meetsMissed_100 rfl (by decide) rfl rfl ?_
            refine r_goto (tgt := 5) dX6_meetsMissed_103 (by decide) ?_
            exact RR.sub (k41 q1 q14 q15 q21 q22) (And.intro rfl (And.intro rfl (And.intro rfl (And.intro rfl (And.intro rfl (trivial))))))
          · refine r_iload_n dX6_meetsMissed_67 rfl ?_
            refine r_if_ne 84 dX6_meetsMissed_68 (by decide) (fun q23 => ?_) (fun q23 => ?_)
            · refine r_aload_n dX6_meetsMissed_84 rfl ?_
              refine r_getR (c := 6) (k := 7) dX6_meetsMissed_85 rfl rfl (by decide) fl_RX6_20 (c1) rfl (c9) ?_
              refine r_iload dX6_meetsMissed_88 rfl ?_
              refine r_baloadJ (Int32.toNatClampNeg l4) dX6_meetsMissed_90 (c10) (c42 q1 q14 q15 q21 q22 q23) rfl ?_
              refine r_if_eq 98 dX6_meetsMissed_91 (by decide) (fun q24 => ?_) (fun q24 => ?_)
              · refine r_iconst (v := 0) dX6_meetsMissed_98 (by decide) ?_
                refine r_istore_nL [some (.ref l0), some (.int l1), some (.int l2), some (.int 0), some (.int l4), some (.int (hI h (hR h l0 2) (Int32.toNatClampNeg ((50 * l2) + l4))))] dX6_meetsMissed_99 (by decide) rfl ?_
                refine r_iincL (v := l4 + 1) [some (.ref l0), some (.int l1), some (.int l2), some (.int 0), some (.int (l4 + 1)), some (.int (hI h (hR h l0 2) (Int32.toNatClampNeg ((50 * l2) + l4))))] dX6_meetsMissed_100 rfl (by decide) rfl rfl ?_
                refine r_goto (tgt := 5) dX6_meetsMissed_103 (by decide) ?_
                exact RR.sub (k43 q1 q14 q15 q21 q22 q23 q24) (And.intro rfl (And.intro rfl (And.intro rfl (And.intro rfl (And.intro rfl (trivial))))))
              · refine r_iconst (v := 1) dX6_meetsMissed_94 (by decide) ?_
                refine r_goto (tgt := 99) dX6_meetsMissed_95 (by decide) ?_
                refine r_istore_nL [some (.ref l0), some (.int l1), some (.int l2), some (.int 1), some (.int l4), some (.int (hI h (hR h l0 2) (Int32.toNatClampNeg ((50 * l2) + l4))))] dX6_meetsMissed_99 (by decide) rfl ?_
                refine r_iincL (v := l4 + 1) [some (.ref l0), some (.int l1), some (.int l2), some (.int 1), some (.int (l4 + 1)), some (.int (hI h (hR h l0 2) (Int32.toNatClampNeg ((50 * l2) + l4))))] dX6_meetsMissed_100 rfl (by decide) rfl rfl ?_
                refine r_goto (tgt := 5) dX6_meetsMissed_103 (by decide) ?_
                exact RR.sub (k44 q1 q14 q15 q21 q22 q23 q24) (And.intro rfl (And.intro rfl (And.intro rfl (And.intro rfl (And.intro rfl (trivial))))))
            · refine r_aload_n dX6_meetsMissed_71 rfl ?_
              refine r_getR (c := 6) (k := 8) dX6_meetsMissed_72 rfl rfl (by decide) fl_RX6_23 (c1) rfl (c14) ?_
              refine r_iload dX6_meetsMissed_75 rfl ?_
              refine r_baloadJ (Int32.toNatClampNeg l4) dX6_meetsMissed_77 (c15) (c45 q1 q14 q15 q21 q22 q23) rfl ?_
              refine r_if_eq 98 dX6_meetsMissed_78 (by decide) (fun q25 => ?_) (fun q25 => ?_)
              · refine r_iconst (v := 0) dX6_meetsMissed_98 (by decide) ?_
                refine r_istore_nL [some (.ref l0), some (.int l1), some (.int l2), some (.int 0), some (.int l4), some (.int (hI h (hR h l0 2) (Int32.toNatClampNeg ((50 * l2) + l4))))] dX6_meetsMissed_99 (by decide) rfl ?_
                refine r_iincL (v := l4 + 1) [some (.ref l0), some (.int l1), some (.int l2), some (.int 0), some (.int (l4 + 1)), some (.int (hI h (hR h l0 2) (Int32.toNatClampNeg ((50 * l2) + l4))))] dX6_meetsMissed_100 rfl (by decide) rfl rfl ?_
                refine r_goto (tgt := 5) dX6_meetsMissed_103 (by decide) ?_
                exact RR.sub (k46 q1 q14 q15 q21 q22 q23 q25) (And.intro rfl (And.intro rfl (And.intro rfl (And.intro rfl (And.intro rfl (trivial))))))
              · refine r_goto (tgt := 94) dX6_meetsMissed_81 (by decide) ?_
                refine r_iconst (v := 1) dX6_meetsMissed_94 (by decide) ?_
                refine r_goto (tgt := 99) dX6_meetsMissed_95 (by decide) ?_
                refine r_istore_nL [some (.ref l0), some (.int l1), some (.int l2), some (.int 1), some (.int l4), some (.int (hI h (hR h l0 2) (Int32.toNatClampNeg ((50 * l2) + l4))))] dX6_meetsMissed_99 (by decide) rfl ?_
                refine r_iincL (v := l4 + 1) [some (.ref l0), some (.int l1), some (.int l2), some (.int 1), some (.int (l4 + 1)), some (.int (hI h (hR h l0 2) (Int32.toNatClampNeg ((50 * l2) + l4))))] dX6_meetsMissed_100 rfl (by decide) rfl rfl ?_
                refine r_goto (tgt := 5) dX6_meetsMissed_103 (by decide) ?_
                exact RR.sub (k47 q1 q14 q15 q21 q22 q23 q25) (And.intro rfl (And.intro rfl (And.intro rfl (And.intro rfl (And.intro rfl (trivial))))))

set_option maxRecDepth 20000 in
set_option maxHeartbeats 2000000 in
theorem s_X6_covers_0 {G : GG} {nc ns : Nat} {h : PH} {Z : Option Value → PH → Prop} {l0 : Nat} {l1 : Int32} {l2 : Int32} {l3 : Int32} {x1 : Int32}
    (e1 : (¬ l1 = l2) → Ev G m_X6_meetsMissed [.ref l0, .int l2, .int l3] h 0 0 (Ret (some (.int x1)) h))
    (c2 : hK h l0 = 16)
    (k3 : (¬ l1 = l2) → Z (some (.int x1)) h)
    (c4 : (¬ l1 = l2) → (x1 = 0 ∨ x1 = 1))
    (c5 : (hR h l0 8) ≠ 0)
    (c6 : hK h (hR h l0 8) = 4)
    (c7 : (l1 = l2) → (¬ l2 = 0) → vp_in l3 (hL h (hR h l0 8)))
    (k8 : (l1 = l2) → (¬ l2 = 0) → (¬ (hI h (hR h l0 8) (Int32.toNatClampNeg l3)) = 0) → Z (some (.int 0)) h)
    (k9 : (l1 = l2) → (¬ l2 = 0) → ((hI h (hR h l0 8) (Int32.toNatClampNeg l3)) = 0) → Z (some (.int 1)) h)
    (c10 : (hR h l0 7) ≠ 0)
    (c11 : hK h (hR h l0 7) = 4)
    (c12 : (l1 = l2) → (l2 = 0) → vp_in l3 (hL h (hR h l0 7)))
    (k13 : (l1 = l2) → (l2 = 0) → (¬ (hI h (hR h l0 7) (Int32.toNatClampNeg l3)) = 0) → Z (some (.int 0)) h)
    (k14 : (l1 = l2) → (l2 = 0) → ((hI h (hR h l0 7) (Int32.toNatClampNeg l3)) = 0) → Z (some (.int 1)) h) :
    RR G nc ns m_X6_covers 0 [some (.ref l0), some (.int l1), some (.int l2), some (.int l3)] [] h Z := by
  refine r_iload_n dX6_covers_0 rfl ?_
  refine r_iload_n dX6_covers_1 rfl ?_
  refine r_icmp_ne 41 dX6_covers_2 (by decide) (fun q1 => ?_) (fun q1 => ?_)
  · refine r_aload_n dX6_covers_41 rfl ?_
    refine r_iload_n dX6_covers_42 rfl ?_
    refine r_iload_n dX6_covers_43 rfl ?_
    refine r_callV1 (c := 6) (mc := 0) (ms := 0) dX6_covers_44 ck_X6_meetsMissed iv_X6_meetsMissed sl_X6_meetsMissed lk_RX6_186 rfl rfl (c2) (by decide) (by decide) (As := [.int l2, .int l3]) rfl rfl (Nat.le_of_ble_eq_true rfl) (Or.inl rfl) (Or.inl rfl) (e1 q1) ?_
    exact r_zreturn dX6_covers_47 rfl (c4 q1) (k3 q1)
  · refine r_iload_n dX6_covers_5 rfl ?_
    refine r_if_ne 26 dX6_covers_6 (by decide) (fun q2 => ?_) (fun q2 => ?_)
    · refine r_aload_n dX6_covers_26 rfl ?_
      refine r_getR (c := 6) (k := 8) dX6_covers_27 rfl rfl (by decide) fl_RX6_23 (c2) rfl (c5) ?_
      refine r_iload_n dX6_covers_30 rfl ?_
      refine r_baloadJ (Int32.toNatClampNeg l3) dX6_covers_31 (c6) (c7 q1 q2) rfl ?_
      refine r_if_ne 39 dX6_covers_32 (by decide) (fun q3 => ?_) (fun q3 => ?_)
      · refine r_iconst (v := 0) dX6_covers_39 (by decide) ?_
        exact r_zreturn dX6_covers_40 rfl (by decide) (k8 q1 q2 q3)
      · refine r_iconst (v := 1) dX6_covers_35 (by decide) ?_
        refine r_goto (tgt := 40) dX6_covers_36 (by decide) ?_
        exact r_zreturn dX6_covers_40 rfl (by decide) (k9 q1 q2 q3)
    · refine r_aload_n dX6_covers_9 rfl ?_
      refine r_getR (c := 6) (k := 7) dX6_covers_10 rfl rfl (by decide) fl_RX6_20 (c2) rfl (c10) ?_
      refine r_iload_n dX6_covers_13 rfl ?_
      refine r_baloadJ (Int32.toNatClampNeg l3) dX6_covers_14 (c11) (c12 q1 q2) rfl ?_
      refine r_if_ne 22 dX6_covers_15 (by decide) (fun q4 => ?_) (fun q4 => ?_)
      · refine r_iconst (v := 0) dX6_covers_22 (by decide) ?_
        refine r_goto (tgt := 40) dX6_covers_23 (by decide) ?_
        exact r_zreturn dX6_covers_40 rfl (by decide) (k13 q1 q2 q4)
      · refine r_iconst (v := 1) dX6_covers_18 (by decide) ?_
        refine r_goto (tgt := 40) dX6_covers_19 (by decide) ?_
        exact r_zreturn dX6_covers_40 rfl (by decide) (k14 q1 q2 q4)

set_option maxRecDepth 20000 in
set_option maxHeartbeats 2000000 in
theorem s_X6_cover_0 {G : GG} {nc ns : Nat} {h : PH} {Z : Option Value → PH → Prop} {l0 : Nat} {l1 : Int32} {l2 : Int32} {l3 : Int32} {x1 : Int32} {P2 : PH → Prop} {x3 : Int32} {P4 : PH → Prop}
    (e1 : (l1 = 0) → Ev G m_X6_isNode [.ref l0, .int l2, .int l3] h 0 0 (Ret (some (.int x1)) h))
    (c2 : hK h l0 = 16)
    (e3 : (l1 = 0) → (¬ x1 = 0) → Ev G m_X6_work [.ref l0] h 0 0 (RV P2))
    (k4 : (l1 = 0) → (¬ x1 = 0) → ∀ (h2 : PH), P2 h2 → hN h2 = (hN h) → hS h2 = (hS h) → RR G nc ns m_X6_cover 24 [some (.ref l0), some (.int l1), some (.int l2), some (.int l3)] [] h2 Z)
    (k5 : (l1 = 0) → (x1 = 0) → Z (some (.int (-1))) h)
    (k6 : (¬ l1 = 0) → (¬ l1 = 1) → Z (some (.int (-1))) h)
    (e7 : (¬ l1 = 0) → (l1 = 1) → Ev G m_X6_isNode [.ref l0, .int l2, .int l3] h 0 0 (Ret (some (.int x3)) h))
    (e8 : (¬ l1 = 0) → (l1 = 1) → (¬ x3 = 0) → Ev G m_X6_work [.ref l0] h 0 0 (RV P4))
    (k9 : (¬ l1 = 0) → (l1 = 1) → (¬ x3 = 0) → ∀ (h4 : PH), P4 h4 → hN h4 = (hN h) → hS h4 = (hS h) → RR G nc ns m_X6_cover 24 [some (.ref l0), some (.int l1), some (.int l2), some (.int l3)] [] h4 Z)
    (k10 : (¬ l1 = 0) → (l1 = 1) → (x3 = 0) → Z (some (.int (-1))) h) :
    RR G nc ns m_X6_cover 0 [some (.ref l0), some (.int l1), some (.int l2), some (.int l3)] [] h Z := by
  refine r_iload_n dX6_cover_0 rfl ?_
  refine r_if_eq 9 dX6_cover_1 (by decide) (fun q1 => ?_) (fun q1 => ?_)
  · refine r_aload_n dX6_cover_9 rfl ?_
    refine r_iload_n dX6_cover_10 rfl ?_
    refine r_iload_n dX6_cover_11 rfl ?_
    refine r_callV1 (c := 6) (mc := 0) (ms := 0) dX6_cover_12 ck_X6_isNode iv_X6_isNode sl_X6_isNode lk_RX6_161 rfl rfl (c2) (by decide) (by decide) (As := [.int l2, .int l3]) rfl rfl (Nat.le_of_ble_eq_true rfl) (Or.inl rfl) (Or.inl rfl) (e1 q1) ?_
    refine r_if_ne 20 dX6_cover_15 (by decide) (fun q2 => ?_) (fun q2 => ?_)
    · refine r_aload_n dX6_cover_20 rfl ?_
      refine r_callV (c := 6) (mc := 0) (ms := 0) dX6_cover_21 ck_X6_work iv_X6_work sl_X6_work lk_RX6_167 rfl rfl (c2) (by decide) (by decide) (As := []) rfl rfl (Nat.le_of_ble_eq_true rfl) (Or.inl rfl) (Or.inl rfl) (e3 q1 q2) ?_
      rintro v2 h2 ⟨rfl, z2⟩ n2 t2
      exact k4 q1 q2 h2 z2 n2 t2
    · refine r_iconst (v := (-1)) dX6_cover_18 (by decide) ?_
      exact r_ireturn dX6_cover_19 rfl (k5 q1 q2)
  · refine r_iload_n dX6_cover_4 rfl ?_
    refine r_iconst (v := 1) dX6_cover_5 (by decide) ?_
    refine r_icmp_ne 18 dX6_cover_6 (by decide) (fun q3 => ?_) (fun q3 => ?_)
    · refine r_iconst (v := (-1)) dX6_cover_18 (by decide) ?_
      exact r_ireturn dX6_cover_19 rfl (k6 q1 q3)
    · refine r_aload_n dX6_cover_9 rfl ?_
      refine r_iload_n dX6_cover_10 rfl ?_
      refine r_iload_n dX6_cover_11 rfl ?_
      refine r_callV1 (c := 6) (mc := 0) (ms := 0) dX6_cover_12 ck_X6_isNode iv_X6_isNode sl_X6_isNode lk_RX6_161 rfl rfl (c2) (by decide) (by decide) (As := [.int l2, .int l3]) rfl rfl (Nat.le_of_ble_eq_true rfl) (Or.inl rfl) (Or.inl rfl) (e7 q1 q3) ?_
      refine r_if_ne 20 dX6_cover_15 (by decide) (fun q4 => ?_) (fun q4 => ?_)
      · refine r_aload_n dX6_cover_20 rfl ?_
        refine r_callV (c := 6) (mc := 0) (ms := 0) dX6_cover_21 ck_X6_work iv_X6_work sl_X6_work lk_RX6_167 rfl rfl (c2) (by decide) (by decide) (As := []) rfl rfl (Nat.le_of_ble_eq_true rfl) (Or.inl rfl) (Or.inl rfl) (e8 q1 q3 q4) ?_
        rintro v4 h4 ⟨rfl, z4⟩ n4 t4
        exact k9 q1 q3 q4 h4 z4 n4 t4
      · refine r_iconst (v := (-1)) dX6_cover_18 (by decide) ?_
        exact r_ireturn dX6_cover_19 rfl (k10 q1 q3 q4)

set_option maxRecDepth 20000 in
set_option maxHeartbeats 2000000 in
theorem s_X6_cover_24 {G : GG} {nc ns : Nat} {h : PH} {Z : Option Value → PH → Prop} {l0 : Nat} {l1 : Int32} {l2 : Int32} {l3 : Int32} {x1 : Int32}
    (e1 : Ev G m_X6_covers [.ref l0, .int l1, .int l2, .int l3] h 0 0 (Ret (some (.int x1)) h))
    (c2 : hK h l0 = 16)
    (k3 : (x1 = 0) → Z (some (.int 0)) h)
    (k4 : (¬ x1 = 0) → Z (some (.int 1)) h) :
    RR G nc ns m_X6_cover 24 [some (.ref l0), some (.int l1), some (.int l2), some (.int l3)] [] h Z := by
  refine r_aload_n dX6_cover_24 rfl ?_
  refine r_iload_n dX6_cover_25 rfl ?_
  refine r_iload_n dX6_cover_26 rfl ?_
  refine r_iload_n dX6_cover_27 rfl ?_
  refine r_callV1 (c := 6) (mc := 0) (ms := 0) dX6_cover_28 ck_X6_covers iv_X6_covers sl_X6_covers lk_RX6_189 rfl rfl (c2) (by decide) (by decide) (As := [.int l1, .int l2, .int l3]) rfl rfl (Nat.le_of_ble_eq_true rfl) (Or.inl rfl) (Or.inl rfl) (e1) ?_
  refine r_if_eq 38 dX6_cover_31 (by decide) (fun q1 => ?_) (fun q1 => ?_)
  · refine r_iconst (v := 0) dX6_cover_38 (by decide) ?_
    exact r_ireturn dX6_cover_39 rfl (k3 q1)
  · refine r_iconst (v := 1) dX6_cover_34 (by decide) ?_
    refine r_goto (tgt := 39) dX6_cover_35 (by decide) ?_
    exact r_ireturn dX6_cover_39 rfl (k4 q1)

set_option maxRecDepth 20000 in
set_option maxHeartbeats 2000000 in
theorem s_X6_hall_0 {G : GG} {nc ns : Nat} {h : PH} {Z : Option Value → PH → Prop} {l0 : Nat} {l1 : Int32} {l2 : Int32} {x1 : Int32} {P2 : PH → Prop} {x3 : Int32} {P4 : PH → Prop}
    (e1 : (l1 = 0) → Ev G m_X6_isNode [.ref l0, .int 0, .int l2] h 0 0 (Ret (some (.int x1)) h))
    (c2 : hK h l0 = 16)
    (e3 : (l1 = 0) → (¬ x1 = 0) → Ev G m_X6_work [.ref l0] h 0 0 (RV P2))
    (k4 : (l1 = 0) → (¬ x1 = 0) → ∀ (h2 : PH), P2 h2 → hN h2 = (hN h) → hS h2 = (hS h) → RR G nc ns m_X6_hall 24 [some (.ref l0), some (.int l1), some (.int l2)] [] h2 Z)
    (k5 : (l1 = 0) → (x1 = 0) → Z (some (.int (-1))) h)
    (k6 : (¬ l1 = 0) → (¬ l1 = 1) → Z (some (.int (-1))) h)
    (e7 : (¬ l1 = 0) → (l1 = 1) → Ev G m_X6_isNode [.ref l0, .int 0, .int l2] h 0 0 (Ret (some (.int x3)) h))
    (e8 : (¬ l1 = 0) → (l1 = 1) → (¬ x3 = 0) → Ev G m_X6_work [.ref l0] h 0 0 (RV P4))
    (k9 : (¬ l1 = 0) → (l1 = 1) → (¬ x3 = 0) → ∀ (h4 : PH), P4 h4 → hN h4 = (hN h) → hS h4 = (hS h) → RR G nc ns m_X6_hall 24 [some (.ref l0), some (.int l1), some (.int l2)] [] h4 Z)
    (k10 : (¬ l1 = 0) → (l1 = 1) → (x3 = 0) → Z (some (.int (-1))) h) :
    RR G nc ns m_X6_hall 0 [some (.ref l0), some (.int l1), some (.int l2)] [] h Z := by
  refine r_iload_n dX6_hall_0 rfl ?_
  refine r_if_eq 9 dX6_hall_1 (by decide) (fun q1 => ?_) (fun q1 => ?_)
  · refine r_aload_n dX6_hall_9 rfl ?_
    refine r_iconst (v := 0) dX6_hall_10 (by decide) ?_
    refine r_iload_n dX6_hall_11 rfl ?_
    refine r_callV1 (c := 6) (mc := 0) (ms := 0) dX6_hall_12 ck_X6_isNode iv_X6_isNode sl_X6_isNode lk_RX6_161 rfl rfl (c2) (by decide) (by decide) (As := [.int 0, .int l2]) rfl rfl (Nat.le_of_ble_eq_true rfl) (Or.inl rfl) (Or.inl rfl) (e1 q1) ?_
    refine r_if_ne 20 dX6_hall_15 (by decide) (fun q2 => ?_) (fun q2 => ?_)
    · refine r_aload_n dX6_hall_20 rfl ?_
      refine r_callV (c := 6) (mc := 0) (ms := 0) dX6_hall_21 ck_X6_work iv_X6_work sl_X6_work lk_RX6_167 rfl rfl (c2) (by decide) (by decide) (As := []) rfl rfl (Nat.le_of_ble_eq_true rfl) (Or.inl rfl) (Or.inl rfl) (e3 q1 q2) ?_
      rintro v2 h2 ⟨rfl, z2⟩ n2 t2
      exact k4 q1 q2 h2 z2 n2 t2
    · refine r_iconst (v := (-1)) dX6_hall_18 (by decide) ?_
      exact r_ireturn dX6_hall_19 rfl (k5 q1 q2)
  · refine r_iload_n dX6_hall_4 rfl ?_
    refine r_iconst (v := 1) dX6_hall_5 (by decide) ?_
    refine r_icmp_ne 18 dX6_hall_6 (by decide) (fun q3 => ?_) (fun q3 => ?_)
    · refine r_iconst (v := (-1)) dX6_hall_18 (by decide) ?_
      exact r_ireturn dX6_hall_19 rfl (k6 q1 q3)
    · refine r_aload_n dX6_hall_9 rfl ?_
      refine r_iconst (v := 0) dX6_hall_10 (by decide) ?_
      refine r_iload_n dX6_hall_11 rfl ?_
      refine r_callV1 (c := 6) (mc := 0) (ms := 0) dX6_hall_12 ck_X6_isNode iv_X6_isNode sl_X6_isNode lk_RX6_161 rfl rfl (c2) (by decide) (by decide) (As := [.int 0, .int l2]) rfl rfl (Nat.le_of_ble_eq_true rfl) (Or.inl rfl) (Or.inl rfl) (e7 q1 q3) ?_
      refine r_if_ne 20 dX6_hall_15 (by decide) (fun q4 => ?_) (fun q4 => ?_)
      · refine r_aload_n dX6_hall_20 rfl ?_
        refine r_callV (c := 6) (mc := 0) (ms := 0) dX6_hall_21 ck_X6_work iv_X6_work sl_X6_work lk_RX6_167 rfl rfl (c2) (by decide) (by decide) (As := []) rfl rfl (Nat.le_of_ble_eq_true rfl) (Or.inl rfl) (Or.inl rfl) (e8 q1 q3 q4) ?_
        rintro v4 h4 ⟨rfl, z4⟩ n4 t4
        exact k9 q1 q3 q4 h4 z4 n4 t4
      · refine r_iconst (v := (-1)) dX6_hall_18 (by decide) ?_
        exact r_ireturn dX6_hall_19 rfl (k10 q1 q3 q4)

set_option maxRecDepth 20000 in
set_option maxHeartbeats 2000000 in
theorem s_X6_hall_24 {G : GG} {nc ns : Nat} {h : PH} {Z : Option Value → PH → Prop} {l0 : Nat} {l1 : Int32} {l2 : Int32} {x1 : Int32}
    (e1 : Ev G m_X6_covers [.ref l0, .int l1, .int 0, .int l2] h 0 0 (Ret (some (.int x1)) h))
    (c2 : hK h l0 = 16)
    (k3 : (x1 = 0) → Z (some (.int 1)) h)
    (k4 : (¬ x1 = 0) → Z (some (.int 0)) h) :
    RR G nc ns m_X6_hall 24 [some (.ref l0), some (.int l1), some (.int l2)] [] h Z := by
  refine r_aload_n dX6_hall_24 rfl ?_
  refine r_iload_n dX6_hall_25 rfl ?_
  refine r_iconst (v := 0) dX6_hall_26 (by decide) ?_
  refine r_iload_n dX6_hall_27 rfl ?_
  refine r_callV1 (c := 6) (mc := 0) (ms := 0) dX6_hall_28 ck_X6_covers iv_X6_covers sl_X6_covers lk_RX6_189 rfl rfl (c2) (by decide) (by decide) (As := [.int l1, .int 0, .int l2]) rfl rfl (Nat.le_of_ble_eq_true rfl) (Or.inl rfl) (Or.inl rfl) (e1) ?_
  refine r_if_eq 38 dX6_hall_31 (by decide) (fun q1 => ?_) (fun q1 => ?_)
  · refine r_iconst (v := 1) dX6_hall_38 (by decide) ?_
    exact r_ireturn dX6_hall_39 rfl (k3 q1)
  · refine r_iconst (v := 0) dX6_hall_34 (by decide) ?_
    refine r_goto (tgt := 39) dX6_hall_35 (by decide) ?_
    exact r_ireturn dX6_hall_39 rfl (k4 q1)

set_option maxRecDepth 20000 in
set_option maxHeartbeats 2000000 in
theorem s_X6_part_0 {G : GG} {nc ns : Nat} {h : PH} {Z : Option Value → PH → Prop} {l0 : Nat} {l1 : Int32} {l2 : Int32} {x1 : Int32} {P2 : PH → Prop}
    (e1 : Ev G m_X6_isNode [.ref l0, .int l1, .int l2] h 0 0 (Ret (some (.int x1)) h))
    (c2 : hK h l0 = 16)
    (e3 : (¬ x1 = 0) → Ev G m_X6_work [.ref l0] h 0 0 (RV P2))
    (k4 : (¬ x1 = 0) → ∀ (h2 : PH), P2 h2 → hN h2 = (hN h) → hS h2 = (hS h) → RR G nc ns m_X6_part 15 [some (.ref l0), some (.int l1), some (.int l2)] [] h2 Z)
    (k5 : (x1 = 0) → Z (some (.int (-1))) h) :
    RR G nc ns m_X6_part 0 [some (.ref l0), some (.int l1), some (.int l2)] [] h Z := by
  refine r_aload_n dX6_part_0 rfl ?_
  refine r_iload_n dX6_part_1 rfl ?_
  refine r_iload_n dX6_part_2 rfl ?_
  refine r_callV1 (c := 6) (mc := 0) (ms := 0) dX6_part_3 ck_X6_isNode iv_X6_isNode sl_X6_isNode lk_RX6_161 rfl rfl (c2) (by decide) (by decide) (As := [.int l1, .int l2]) rfl rfl (Nat.le_of_ble_eq_true rfl) (Or.inl rfl) (Or.inl rfl) (e1) ?_
  refine r_if_ne 11 dX6_part_6 (by decide) (fun q1 => ?_) (fun q1 => ?_)
  · refine r_aload_n dX6_part_11 rfl ?_
    refine r_callV (c := 6) (mc := 0) (ms := 0) dX6_part_12 ck_X6_work iv_X6_work sl_X6_work lk_RX6_167 rfl rfl (c2) (by decide) (by decide) (As := []) rfl rfl (Nat.le_of_ble_eq_true rfl) (Or.inl rfl) (Or.inl rfl) (e3 q1) ?_
    rintro v2 h2 ⟨rfl, z2⟩ n2 t2
    exact k4 q1 h2 z2 n2 t2
  · refine r_iconst (v := (-1)) dX6_part_9 (by decide) ?_
    exact r_ireturn dX6_part_10 rfl (k5 q1)

set_option maxRecDepth 20000 in
set_option maxHeartbeats 2000000 in
theorem s_X6_part_15 {G : GG} {nc ns : Nat} {h : PH} {Z : Option Value → PH → Prop} {l0 : Nat} {l1 : Int32} {l2 : Int32}
    (c1 : hK h l0 = 16)
    (c2 : (hR h l0 10) ≠ 0)
    (c3 : hK h (hR h l0 10) = 2)
    (c4 : (¬ l1 = 0) → vp_in l2 (hL h (hR h l0 10)))
    (k5 : (¬ l1 = 0) → Z (some (.int (hI h (hR h l0 10) (Int32.toNatClampNeg l2)))) h)
    (c6 : (hR h l0 9) ≠ 0)
    (c7 : hK h (hR h l0 9) = 2)
    (c8 : (l1 = 0) → vp_in l2 (hL h (hR h l0 9)))
    (k9 : (l1 = 0) → Z (some (.int (hI h (hR h l0 9) (Int32.toNatClampNeg l2)))) h) :
    RR G nc ns m_X6_part 15 [some (.ref l0), some (.int l1), some (.int l2)] [] h Z := by
  refine r_iload_n dX6_part_15 rfl ?_
  refine r_if_ne 28 dX6_part_16 (by decide) (fun q1 => ?_) (fun q1 => ?_)
  · refine r_aload_n dX6_part_28 rfl ?_
    refine r_getR (c := 6) (k := 10) dX6_part_29 rfl rfl (by decide) fl_RX6_29 (c1) rfl (c2) ?_
    refine r_iload_n dX6_part_32 rfl ?_
    refine r_ialoadJ (Int32.toNatClampNeg l2) dX6_part_33 (c3) (c4 q1) rfl ?_
    exact r_ireturn dX6_part_34 rfl (k5 q1)
  · refine r_aload_n dX6_part_19 rfl ?_
    refine r_getR (c := 6) (k := 9) dX6_part_20 rfl rfl (by decide) fl_RX6_26 (c1) rfl (c6) ?_
    refine r_iload_n dX6_part_23 rfl ?_
    refine r_ialoadJ (Int32.toNatClampNeg l2) dX6_part_24 (c7) (c8 q1) rfl ?_
    refine r_goto (tgt := 34) dX6_part_25 (by decide) ?_
    exact r_ireturn dX6_part_34 rfl (k9 q1)

set_option maxRecDepth 20000 in
set_option maxHeartbeats 2000000 in
theorem s_X6_block_0 {G : GG} {nc ns : Nat} {h : PH} {Z : Option Value → PH → Prop} {l0 : Nat} {l1 : Int32} {l2 : Int32} {x1 : Int32} {P2 : PH → Prop}
    (e1 : Ev G m_X6_isNode [.ref l0, .int l1, .int l2] h 0 0 (Ret (some (.int x1)) h))
    (c2 : hK h l0 = 16)
    (e3 : (¬ x1 = 0) → Ev G m_X6_work [.ref l0] h 0 0 (RV P2))
    (k4 : (¬ x1 = 0) → ∀ (h2 : PH), P2 h2 → hN h2 = (hN h) → hS h2 = (hS h) → RR G nc ns m_X6_block 15 [some (.ref l0), some (.int l1), some (.int l2), none] [] h2 Z)
    (k5 : (x1 = 0) → Z (some (.int (-1))) h) :
    RR G nc ns m_X6_block 0 [some (.ref l0), some (.int l1), some (.int l2), none] [] h Z := by
  refine r_aload_n dX6_block_0 rfl ?_
  refine r_iload_n dX6_block_1 rfl ?_
  refine r_iload_n dX6_block_2 rfl ?_
  refine r_callV1 (c := 6) (mc := 0) (ms := 0) dX6_block_3 ck_X6_isNode iv_X6_isNode sl_X6_isNode lk_RX6_161 rfl rfl (c2) (by decide) (by decide) (As := [.int l1, .int l2]) rfl rfl (Nat.le_of_ble_eq_true rfl) (Or.inl rfl) (Or.inl rfl) (e1) ?_
  refine r_if_ne 11 dX6_block_6 (by decide) (fun q1 => ?_) (fun q1 => ?_)
  · refine r_aload_n dX6_block_11 rfl ?_
    refine r_callV (c := 6) (mc := 0) (ms := 0) dX6_block_12 ck_X6_work iv_X6_work sl_X6_work lk_RX6_167 rfl rfl (c2) (by decide) (by decide) (As := []) rfl rfl (Nat.le_of_ble_eq_true rfl) (Or.inl rfl) (Or.inl rfl) (e3 q1) ?_
    rintro v2 h2 ⟨rfl, z2⟩ n2 t2
    exact k4 q1 h2 z2 n2 t2
  · refine r_iconst (v := (-1)) dX6_block_9 (by decide) ?_
    exact r_ireturn dX6_block_10 rfl (k5 q1)

set_option maxRecDepth 20000 in
set_option maxHeartbeats 2000000 in
theorem s_X6_block_15 {G : GG} {nc ns : Nat} {h : PH} {Z : Option Value → PH → Prop} {l0 : Nat} {l1 : Int32} {l2 : Int32}
    (c1 : hK h l0 = 16)
    (c2 : (hR h l0 10) ≠ 0)
    (c3 : hK h (hR h l0 10) = 2)
    (c4 : (¬ l1 = 0) → vp_in l2 (hL h (hR h l0 10)))
    (c5 : (hR h l0 11) ≠ 0)
    (c6 : (hR h l0 6) ≠ 0)
    (c7 : hK h (hR h l0 6) = 2)
    (c8 : (¬ l1 = 0) → ((hI h (hR h l0 10) (Int32.toNatClampNeg l2)) = 1) → (¬ l1 = 0) → vp_in l2 (hL h (hR h l0 6)))
    (c9 : hK h (hR h l0 11) = 2)
    (c10 : (¬ l1 = 0) → ((hI h (hR h l0 10) (Int32.toNatClampNeg l2)) = 1) → (¬ l1 = 0) → vp_in (hI h (hR h l0 6) (Int32.toNatClampNeg l2)) (hL h (hR h l0 11)))
    (k11 : (¬ l1 = 0) → ((hI h (hR h l0 10) (Int32.toNatClampNeg l2)) = 1) → (¬ l1 = 0) → Z (some (.int (hI h (hR h l0 11) (Int32.toNatClampNeg (hI h (hR h l0 6) (Int32.toNatClampNeg l2)))))) h)
    (c12 : (¬ l1 = 0) → ((hI h (hR h l0 10) (Int32.toNatClampNeg l2)) = 1) → (l1 = 0) → vp_in l2 (hL h (hR h l0 11)))
    (k13 : (¬ l1 = 0) → ((hI h (hR h l0 10) (Int32.toNatClampNeg l2)) = 1) → (l1 = 0) → Z (some (.int (hI h (hR h l0 11) (Int32.toNatClampNeg l2)))) h)
    (k14 : (¬ l1 = 0) → (¬ (hI h (hR h l0 10) (Int32.toNatClampNeg l2)) = 1) → Z (some (.int (-3))) h)
    (c15 : (hR h l0 9) ≠ 0)
    (c16 : hK h (hR h l0 9) = 2)
    (c17 : (l1 = 0) → vp_in l2 (hL h (hR h l0 9)))
    (c18 : (l1 = 0) → ((hI h (hR h l0 9) (Int32.toNatClampNeg l2)) = 1) → (¬ l1 = 0) → vp_in l2 (hL h (hR h l0 6)))
    (c19 : (l1 = 0) → ((hI h (hR h l0 9) (Int32.toNatClampNeg l2)) = 1) → (¬ l1 = 0) → vp_in (hI h (hR h l0 6) (Int32.toNatClampNeg l2)) (hL h (hR h l0 11)))
    (k20 : (l1 = 0) → ((hI h (hR h l0 9) (Int32.toNatClampNeg l2)) = 1) → (¬ l1 = 0) → Z (some (.int (hI h (hR h l0 11) (Int32.toNatClampNeg (hI h (hR h l0 6) (Int32.toNatClampNeg l2)))))) h)
    (c21 : (l1 = 0) → ((hI h (hR h l0 9) (Int32.toNatClampNeg l2)) = 1) → (l1 = 0) → vp_in l2 (hL h (hR h l0 11)))
    (k22 : (l1 = 0) → ((hI h (hR h l0 9) (Int32.toNatClampNeg l2)) = 1) → (l1 = 0) → Z (some (.int (hI h (hR h l0 11) (Int32.toNatClampNeg l2)))) h)
    (k23 : (l1 = 0) → (¬ (hI h (hR h l0 9) (Int32.toNatClampNeg l2)) = 1) → Z (some (.int (-3))) h) :
    RR G nc ns m_X6_block 15 [some (.ref l0), some (.int l1), some (.int l2), none] [] h Z := by
  refine r_iload_n dX6_block_15 rfl ?_
  refine r_if_ne 28 dX6_block_16 (by decide) (fun q1 => ?_) (fun q1 => ?_)
  · refine r_aload_n dX6_block_28 rfl ?_
    refine r_getR (c := 6) (k := 10) dX6_block_29 rfl rfl (by decide) fl_RX6_29 (c1) rfl (c2) ?_
    refine r_iload_n dX6_block_32 rfl ?_
    refine r_ialoadJ (Int32.toNatClampNeg l2) dX6_block_33 (c3) (c4 q1) rfl ?_
    refine r_istore_nL [some (.ref l0), some (.int l1), some (.int l2), some (.int (hI h (hR h l0 10) (Int32.toNatClampNeg l2)))] dX6_block_34 (by decide) rfl ?_
    refine r_iload_n dX6_block_35 rfl ?_
    refine r_iconst (v := 1) dX6_block_36 (by decide) ?_
    refine r_icmp_eq 45 dX6_block_37 (by decide) (fun q2 => ?_) (fun q2 => ?_)
    · refine r_aload_n dX6_block_45 rfl ?_
      refine r_getR (c := 6) (k := 11) dX6_block_46 rfl rfl (by decide) fl_RX6_32 (c1) rfl (c5) ?_
      refine r_iload_n dX6_block_49 rfl ?_
      refine r_if_ne 57 dX6_block_50 (by decide) (fun q3 => ?_) (fun q3 => ?_)
      · refine r_aload_n dX6_block_57 rfl ?_
        refine r_getR (c := 6) (k := 6) dX6_block_58 rfl rfl (by decide) fl_RX6_17 (c1) rfl (c6) ?_
        refine r_iload_n dX6_block_61 rfl ?_
        refine r_ialoadJ (Int32.toNatClampNeg l2) dX6_block_62 (c7) (c8 q1 q2 q3) rfl ?_
        refine r_ialoadJ (Int32.toNatClampNeg (hI h (hR h l0 6) (Int32.toNatClampNeg l2))) dX6_block_63 (c9) (c10 q1 q2 q3) rfl ?_
        exact r_ireturn dX6_block_64 rfl (k11 q1 q2 q3)
      · refine r_iload_n dX6_block_53 rfl ?_
        refine r_goto (tgt := 63) dX6_block_54 (by decide) ?_
        refine r_ialoadJ (Int32.toNatClampNeg l2) dX6_block_63 (c9) (c12 q1 q2 q3) rfl ?_
        exact r_ireturn dX6_block_64 rfl (k13 q1 q2 q3)
    · refine r_bipush (v := (-3)) dX6_block_40 (by decide) ?_
      refine r_goto (tgt := 64) dX6_block_42 (by decide) ?_
      exact r_ireturn dX6_block_64 rfl (k14 q1 q2)
  · refine r_aload_n dX6_block_19 rfl ?_
    refine r_getR (c := 6) (k := 9) dX6_block_20 rfl rfl (by decide) fl_RX6_26 (c1) rfl (c15) ?_
    refine r_iload_n dX6_block_23 rfl ?_
    refine r_ialoadJ (Int32.toNatClampNeg l2) dX6_block_24 (c16) (c17 q1) rfl ?_
    refine r_goto (tgt := 34) dX6_block_25 (by decide) ?_
    refine r_istore_nL [some (.ref l0), some (.int l1), some (.int l2), some (.int (hI h (hR h l0 9) (Int32.toNatClampNeg l2)))] dX6_block_34 (by decide) rfl ?_
    refine r_iload_n dX6_block_35 rfl ?_
    refine r_iconst (v := 1) dX6_block_36 (by decide) ?_
    refine r_icmp_eq 45 dX6_block_37 (by decide) (fun q4 => ?_) (fun q4 => ?_)
    · refine r_aload_n dX6_block_45 rfl ?_
      refine r_getR (c := 6) (k := 11) dX6_block_46 rfl rfl (by decide) fl_RX6_32 (c1) rfl (c5) ?_
      refine r_iload_n dX6_block_49 rfl ?_
      refine r_if_ne 57 dX6_block_50 (by decide) (fun q5 => ?_) (fun q5 => ?_)
      · refine r_aload_n dX6_block_57 rfl ?_
        refine r_getR (c := 6) (k := 6) dX6_block_58 rfl rfl (by decide) fl_RX6_17 (c1) rfl (c6) ?_
        refine r_iload_n dX6_block_61 rfl ?_
        refine r_ialoadJ (Int32.toNatClampNeg l2) dX6_block_62 (c7) (c18 q1 q4 q5) rfl ?_
        refine r_ialoadJ (Int32.toNatClampNeg (hI h (hR h l0 6) (Int32.toNatClampNeg l2))) dX6_block_63 (c9) (c19 q1 q4 q5) rfl ?_
        exact r_ireturn dX6_block_64 rfl (k20 q1 q4 q5)
      · refine r_iload_n dX6_block_53 rfl ?_
        refine r_goto (tgt := 63) dX6_block_54 (by decide) ?_
        refine r_ialoadJ (Int32.toNatClampNeg l2) dX6_block_63 (c9) (c21 q1 q4 q5) rfl ?_
        exact r_ireturn dX6_block_64 rfl (k22 q1 q4 q5)
    · refine r_bipush (v := (-3)) dX6_block_40 (by decide) ?_
      refine r_goto (tgt := 64) dX6_block_42 (by decide) ?_
      exact r_ireturn dX6_block_64 rfl (k23 q1 q4)

set_option maxRecDepth 20000 in
set_option maxHeartbeats 2000000 in
theorem s_X6_leads_0 {G : GG} {nc ns : Nat} {h : PH} {Z : Option Value → PH → Prop} {l0 : Nat} {l1 : Int32} {l2 : Int32} {P1 : PH → Prop}
    (e1 : Ev G m_X6_work [.ref l0] h 0 0 (RV P1))
    (c2 : hK h l0 = 16)
    (k3 : ∀ (h1 : PH), P1 h1 → hN h1 = (hN h) → hS h1 = (hS h) → RR G nc ns m_X6_leads 4 [some (.ref l0), some (.int l1), some (.int l2), none, none, none] [] h1 Z) :
    RR G nc ns m_X6_leads 0 [some (.ref l0), some (.int l1), some (.int l2), none, none, none] [] h Z := by
  refine r_aload_n dX6_leads_0 rfl ?_
  refine r_callV (c := 6) (mc := 0) (ms := 0) dX6_leads_1 ck_X6_work iv_X6_work sl_X6_work lk_RX6_167 rfl rfl (c2) (by decide) (by decide) (As := []) rfl rfl (Nat.le_of_ble_eq_true rfl) (Or.inl rfl) (Or.inl rfl) (e1) ?_
  rintro v1 h1 ⟨rfl, z1⟩ n1 t1
  exact k3 h1 z1 n1 t1

set_option maxRecDepth 20000 in
set_option maxHeartbeats 2000000 in
theorem s_X6_leads_4 {G : GG} {nc ns : Nat} {h : PH} {Z : Option Value → PH → Prop} {l0 : Nat} {l1 : Int32} {l2 : Int32}
    (k1 : (l1 < 0) → Z (some (.int (-1))) h)
    (c2 : hK h l0 = 16)
    (k3 : (¬ l1 < 0) → ((hI h l0 13) ≤ l1) → Z (some (.int (-1))) h)
    (k4 : (¬ l1 < 0) → (¬ (hI h l0 13) ≤ l1) → (l2 < 0) → Z (some (.int (-1))) h)
    (k5 : (¬ l1 < 0) → (¬ (hI h l0 13) ≤ l1) → (¬ l2 < 0) → (l2 < (hI h l0 13)) → (¬ l1 = l2) → RR G nc ns m_X6_leads 42 [some (.ref l0), some (.int l1), some (.int l2), some (.int 0), some (.int 0), none] [] h Z)
    (k6 : (¬ l1 < 0) → (¬ (hI h l0 13) ≤ l1) → (¬ l2 < 0) → (l2 < (hI h l0 13)) → (l1 = l2) → Z (some (.int 0)) h)
    (k7 : (¬ l1 < 0) → (¬ (hI h l0 13) ≤ l1) → (¬ l2 < 0) → (¬ l2 < (hI h l0 13)) → Z (some (.int (-1))) h) :
    RR G nc ns m_X6_leads 4 [some (.ref l0), some (.int l1), some (.int l2), none, none, none] [] h Z := by
  refine r_iload_n dX6_leads_4 rfl ?_
  refine r_if_lt 28 dX6_leads_5 (by decide) (fun q1 => ?_) (fun q1 => ?_)
  · refine r_iconst (v := (-1)) dX6_leads_28 (by decide) ?_
    exact r_ireturn dX6_leads_29 rfl (k1 q1)
  · refine r_iload_n dX6_leads_8 rfl ?_
    refine r_aload_n dX6_leads_9 rfl ?_
    refine r_get (c := 6) (k := 13) dX6_leads_10 rfl rfl (by decide) fl_RX6_159 (c2) rfl ?_
    refine r_icmp_ge 28 dX6_leads_13 (by decide) (fun q2 => ?_) (fun q2 => ?_)
    · refine r_iconst (v := (-1)) dX6_leads_28 (by decide) ?_
      exact r_ireturn dX6_leads_29 rfl (k3 q1 q2)
    · refine r_iload_n dX6_leads_16 rfl ?_
      refine r_if_lt 28 dX6_leads_17 (by decide) (fun q3 => ?_) (fun q3 => ?_)
      · refine r_iconst (v := (-1)) dX6_leads_28 (by decide) ?_
        exact r_ireturn dX6_leads_29 rfl (k4 q1 q2 q3)
      · refine r_iload_n dX6_leads_20 rfl ?_
        refine r_aload_n dX6_leads_21 rfl ?_
        refine r_get (c := 6) (k := 13) dX6_leads_22 rfl rfl (by decide) fl_RX6_159 (c2) rfl ?_
        refine r_icmp_lt 30 dX6_leads_25 (by decide) (fun q4 => ?_) (fun q4 => ?_)
        · refine r_iload_n dX6_leads_30 rfl ?_
          refine r_iload_n dX6_leads_31 rfl ?_
          refine r_icmp_ne 37 dX6_leads_32 (by decide) (fun q5 => ?_) (fun q5 => ?_)
          · refine r_iconst (v := 0) dX6_leads_37 (by decide) ?_
            refine r_istore_nL [some (.ref l0), some (.int l1), some (.int l2), some (.int 0), none, none] dX6_leads_38 (by decide) rfl ?_
            refine r_iconst (v := 0) dX6_leads_39 (by decide) ?_
            refine r_istoreL [some (.ref l0), some (.int l1), some (.int l2), some (.int 0), some (.int 0), none] dX6_leads_40 (by decide) rfl ?_
            exact k5 q1 q2 q3 q4 q5
          · refine r_iconst (v := 0) dX6_leads_35 (by decide) ?_
            exact r_ireturn dX6_leads_36 rfl (k6 q1 q2 q3 q4 q5)
        · refine r_iconst (v := (-1)) dX6_leads_28 (by decide) ?_
          exact r_ireturn dX6_leads_29 rfl (k7 q1 q2 q3 q4)

set_option maxRecDepth 20000 in
set_option maxHeartbeats 2000000 in
theorem s_X6_leads_42 {G : GG} {nc ns : Nat} {h : PH} {Z : Option Value → PH → Prop} {l0 : Nat} {l1 : Int32} {l2 : Int32} {l3 : Int32} {l4 : Int32}
    (c1 : hK h l0 = 16)
    (k2 : ((hI h l0 0) ≤ l4) → (l3 = 0) → Z (some (.int 0)) h)
    (k3 : ((hI h l0 0) ≤ l4) → (¬ l3 = 0) → Z (some (.int 1)) h)
    (k4 : (¬ (hI h l0 0) ≤ l4) → RR G nc ns m_X6_leads 54 [some (.ref l0), some (.int l1), some (.int l2), some (.int l3), some (.int l4), some (.int 0)] [] h Z) :
    RR G nc ns m_X6_leads 42 [some (.ref l0), some (.int l1), some (.int l2), some (.int l3), some (.int l4), none] [] h Z := by
  refine r_iload dX6_leads_42 rfl ?_
  refine r_aload_n dX6_leads_44 rfl ?_
  refine r_get (c := 6) (k := 0) dX6_leads_45 rfl rfl (by decide) fl_RX6_126 (c1) rfl ?_
  refine r_icmp_ge 123 dX6_leads_48 (by decide) (fun q1 => ?_) (fun q1 => ?_)
  · refine r_iload_n dX6_leads_123 rfl ?_
    refine r_if_eq 131 dX6_leads_124 (by decide) (fun q2 => ?_) (fun q2 => ?_)
    · refine r_iconst (v := 0) dX6_leads_131 (by decide) ?_
      exact r_ireturn dX6_leads_132 rfl (k2 q1 q2)
    · refine r_iconst (v := 1) dX6_leads_127 (by decide) ?_
      refine r_goto (tgt := 132) dX6_leads_128 (by decide) ?_
      exact r_ireturn dX6_leads_132 rfl (k3 q1 q2)
  · refine r_iconst (v := 0) dX6_leads_51 (by decide) ?_
    refine r_istoreL [some (.ref l0), some (.int l1), some (.int l2), some (.int l3), some (.int l4), some (.int 0)] dX6_leads_52 (by decide) rfl ?_
    exact k4 q1

set_option maxRecDepth 20000 in
set_option maxHeartbeats 2000000 in
theorem s_X6_leads_54 {G : GG} {nc ns : Nat} {h : PH} {Z : Option Value → PH → Prop} {l0 : Nat} {l1 : Int32} {l2 : Int32} {l3 : Int32} {l4 : Int32} {l5 : Int32}
    (c1 : hK h l0 = 16)
    (k2 : ((hI h l0 0) ≤ l5) → RR G nc ns m_X6_leads 42 [some (.ref l0), some (.int l1), some (.int l2), some (.int l3), some (.int (l4 + 1)), none] [] h Z)
    (k3 : (¬ (hI h l0 0) ≤ l5) → (¬ l3 = 0) → RR G nc ns m_X6_leads 54 [some (.ref l0), some (.int l1), some (.int l2), some (.int 1), some (.int l4), some (.int (l5 + 1))] [] h Z)
    (c4 : (hR h l0 11) ≠ 0)
    (c5 : hK h (hR h l0 11) = 2)
    (c6 : (¬ (hI h l0 0) ≤ l5) → (l3 = 0) → vp_in l4 (hL h (hR h l0 11)))
    (k7 : (¬ (hI h l0 0) ≤ l5) → (l3 = 0) → (¬ (hI h (hR h l0 11) (Int32.toNatClampNeg l4)) = l1) → RR G nc ns m_X6_leads 54 [some (.ref l0), some (.int l1), some (.int l2), some (.int 0), some (.int l4), some (.int (l5 + 1))] [] h Z)
    (c8 : (¬ (hI h l0 0) ≤ l5) → (l3 = 0) → ((hI h (hR h l0 11) (Int32.toNatClampNeg l4)) = l1) → vp_in l5 (hL h (hR h l0 11)))
    (k9 : (¬ (hI h l0 0) ≤ l5) → (l3 = 0) → ((hI h (hR h l0 11) (Int32.toNatClampNeg l4)) = l1) → (¬ (hI h (hR h l0 11) (Int32.toNatClampNeg l5)) = l2) → RR G nc ns m_X6_leads 54 [some (.ref l0), some (.int l1), some (.int l2), some (.int 0), some (.int l4), some (.int (l5 + 1))] [] h Z)
    (c10 : (hR h l0 12) ≠ 0)
    (c11 : hK h (hR h l0 12) = 4)
    (c12 : (¬ (hI h l0 0) ≤ l5) → (l3 = 0) → ((hI h (hR h l0 11) (Int32.toNatClampNeg l4)) = l1) → ((hI h (hR h l0 11) (Int32.toNatClampNeg l5)) = l2) → vp_in ((50 * l4) + l5) (hL h (hR h l0 12)))
    (k13 : (¬ (hI h l0 0) ≤ l5) → (l3 = 0) → ((hI h (hR h l0 11) (Int32.toNatClampNeg l4)) = l1) → ((hI h (hR h l0 11) (Int32.toNatClampNeg l5)) = l2) → ((hI h (hR h l0 12) (Int32.toNatClampNeg ((50 * l4) + l5))) = 0) → RR G nc ns m_X6_leads 54 [some (.ref l0), some (.int l1), some (.int l2), some (.int 0), some (.int l4), some (.int (l5 + 1))] [] h Z)
    (k14 : (¬ (hI h l0 0) ≤ l5) → (l3 = 0) → ((hI h (hR h l0 11) (Int32.toNatClampNeg l4)) = l1) → ((hI h (hR h l0 11) (Int32.toNatClampNeg l5)) = l2) → (¬ (hI h (hR h l0 12) (Int32.toNatClampNeg ((50 * l4) + l5))) = 0) → RR G nc ns m_X6_leads 54 [some (.ref l0), some (.int l1), some (.int l2), some (.int 1), some (.int l4), some (.int (l5 + 1))] [] h Z) :
    RR G nc ns m_X6_leads 54 [some (.ref l0), some (.int l1), some (.int l2), some (.int l3), some (.int l4), some (.int l5)] [] h Z := by
  refine r_iload dX6_leads_54 rfl ?_
  refine r_aload_n dX6_leads_56 rfl ?_
  refine r_get (c := 6) (k := 0) dX6_leads_57 rfl rfl (by decide) fl_RX6_126 (c1) rfl ?_
  refine r_icmp_ge 117 dX6_leads_60 (by decide) (fun q1 => ?_) (fun q1 => ?_)
  · refine r_iincL (v := l4 + 1) [some (.ref l0), some (.int l1), some (.int l2), some (.int l3), some (.int (l4 + 1)), some (.int l5)] dX6_leads_117 rfl (by decide) rfl rfl ?_
    refine r_goto (tgt := 42) dX6_leads_120 (by decide) ?_
    exact RR.sub (k2 q1) (And.intro rfl (And.intro rfl (And.intro rfl (And.intro rfl (And.intro rfl (trivial))))))
  · refine r_iload_n dX6_leads_63 rfl ?_
    refine r_if_ne 105 dX6_leads_64 (by decide) (fun q2 => ?_) (fun q2 => ?_)
    · refine r_iconst (v := 1) dX6_leads_105 (by decide) ?_
      refine r_goto (tgt := 110) dX6_leads_106 (by decide) ?_
      refine r_istore_nL [some (.ref l0), some (.int l1), some (.int l2), some (.int 1), some (.int l4), some (.int l5)] dX6_leads_110 (by decide) rfl ?_
      refine r_iincL (v := l5 + 1) [some (.ref l0), some (.int l1), some (.int l2), some (.int 1), some (.int l4), some (.int (l5 + 1))] dX6_leads_111 rfl (by decide) rfl rfl ?_
      refine r_goto (tgt := 54) dX6_leads_114 (by decide) ?_
      exact k3 q1 q2
    · refine r_aload_n dX6_leads_67 rfl ?_
      refine r_getR (c := 6) (k := 11) dX6_leads_68 rfl rfl (by decide) fl_RX6_32 (c1) rfl (c4) ?_
      refine r_iload dX6_leads_71 rfl ?_
      refine r_ialoadJ (Int32.toNatClampNeg l4) dX6_leads_73 (c5) (c6 q1 q2) rfl ?_
      refine r_iload_n dX6_leads_74 rfl ?_
      refine r_icmp_ne 109 dX6_leads_75 (by decide) (fun q3 => ?_) (fun q3 => ?_)
      · refine r_iconst (v := 0) dX6_leads_109 (by decide) ?_
        refine r_istore_nL [some (.ref l0), some (.int l1), some (.int l2), some (.int 0), some (.int l4), some (.int l5)] dX6_leads_110 (by decide) rfl ?_
        refine r_iincL (v := l5 + 1) [some (.ref l0), some (.int l1), some (.int l2), some (.int 0), some (.int l4), some (.int (l5 + 1))] dX6_leads_111 rfl (by decide) rfl rfl ?_
        refine r_goto (tgt := 54) dX6_leads_114 (by decide) ?_
        exact k7 q1 q2 q3
      · refine r_aload_n dX6_leads_78 rfl ?_
        refine r_getR (c := 6) (k := 11) dX6_leads_79 rfl rfl (by decide) fl_RX6_32 (c1) rfl (c4) ?_
        refine r_iload dX6_leads_82 rfl ?_
        refine r_ialoadJ (Int32.toNatClampNeg l5) dX6_leads_84 (c5) (c8 q1 q2 q3) rfl ?_
        refine r_iload_n dX6_leads_85 rfl ?_
        refine r_icmp_ne 109 dX6_leads_86 (by decide) (fun q4 => ?_) (fun q4 => ?_)
        · refine r_iconst (v := 0) dX6_leads_109 (by decide) ?_
          refine r_istore_nL [some (.ref l0), some (.int l1), some (.int l2), some (.int 0), some (.int l4), some (.int l5)] dX6_leads_110 (by decide) rfl ?_
          refine r_iincL (v := l5 + 1) [some (.ref l0), some (.int l1), some (.int l2), some (.int 0), some (.int l4), some (.int (l5 + 1))] dX6_leads_111 rfl (by decide) rfl rfl ?_
          refine r_goto (tgt := 54) dX6_leads_114 (by decide) ?_
          exact k9 q1 q2 q3 q4
        · refine r_aload_n dX6_leads_89 rfl ?_
          refine r_getR (c := 6) (k := 12) dX6_leads_90 rfl rfl (by decide) fl_RX6_35 (c1) rfl (c10) ?_
          refine r_bipush (v := 50) dX6_leads_93 (by decide) ?_
          refine r_iload dX6_leads_95 rfl ?_
          refine r_imul dX6_leads_97 ?_
          refine r_iload dX6_leads_98 rfl ?_
          refine r_iadd dX6_leads_100 ?_
          refine r_baloadJ (Int32.toNatClampNeg ((50 * l4) + l5)) dX6_leads_101 (c11) (c12 q1 q2 q3 q4) rfl ?_
          refine r_if_eq 109 dX6_leads_102 (by decide) (fun q5 => ?_) (fun q5 => ?_)
          · refine r_iconst (v := 0) dX6_leads_109 (by decide) ?_
            refine r_istore_nL [some (.ref l0), some (.int l1), some (.int l2), some (.int 0), some (.int l4), some (.int l5)] dX6_leads_110 (by decide) rfl ?_
            refine r_iincL (v := l5 + 1) [some (.ref l0), some (.int l1), some (.int l2), some (.int 0), some (.int l4), some (.int (l5 + 1))] dX6_leads_111 rfl (by decide) rfl rfl ?_
            refine r_goto (tgt := 54) dX6_leads_114 (by decide) ?_
            exact k13 q1 q2 q3 q4 q5
          · refine r_iconst (v := 1) dX6_leads_105 (by decide) ?_
            refine r_goto (tgt := 110) dX6_leads_106 (by decide) ?_
            refine r_istore_nL [some (.ref l0), some (.int l1), some (.int l2), some (.int 1), some (.int l4), some (.int l5)] dX6_leads_110 (by decide) rfl ?_
            refine r_iincL (v := l5 + 1) [some (.ref l0), some (.int l1), some (.int l2), some (.int 1), some (.int l4), some (.int (l5 + 1))] dX6_leads_111 rfl (by decide) rfl rfl ?_
            refine r_goto (tgt := 54) dX6_leads_114 (by decide) ?_
            exact k14 q1 q2 q3 q4 q5

set_option maxRecDepth 20000 in
set_option maxHeartbeats 2000000 in
theorem s_X6_bits_0 {G : GG} {nc ns : Nat} {h : PH} {Z : Option Value → PH → Prop} {l0 : Int32}
    (k1 : RR G nc ns m_X6_bits 4 [some (.int l0), some (.int 0), some (.int l0)] [] h Z) :
    RR G nc ns m_X6_bits 0 [some (.int l0), none, none] [] h Z := by
  refine r_iconst (v := 0) dX6_bits_0 (by decide) ?_
  refine r_istore_nL [some (.int l0), some (.int 0), none] dX6_bits_1 (by decide) rfl ?_
  refine r_iload_n dX6_bits_2 rfl ?_
  refine r_istore_nL [some (.int l0), some (.int 0), some (.int l0)] dX6_bits_3 (by decide) rfl ?_
  exact k1

set_option maxRecDepth 20000 in
set_option maxHeartbeats 2000000 in
theorem s_X6_bits_4 {G : GG} {nc ns : Nat} {h : PH} {Z : Option Value → PH → Prop} {l0 : Int32} {l1 : Int32} {l2 : Int32}
    (k1 : (l2 ≤ 0) → Z (some (.int l1)) h)
    (k2 : (¬ l2 ≤ 0) → RR G nc ns m_X6_bits 4 [some (.int l0), some (.int (l1 + (l2 &&& 1))), some (.int (l2 >>> (1 &&& 31)))] [] h Z) :
    RR G nc ns m_X6_bits 4 [some (.int l0), some (.int l1), some (.int l2)] [] h Z := by
  refine r_iload_n dX6_bits_4 rfl ?_
  refine r_if_le 21 dX6_bits_5 (by decide) (fun q1 => ?_) (fun q1 => ?_)
  · refine r_iload_n dX6_bits_21 rfl ?_
    exact r_ireturn dX6_bits_22 rfl (k1 q1)
  · refine r_iload_n dX6_bits_8 rfl ?_
    refine r_iload_n dX6_bits_9 rfl ?_
    refine r_iconst (v := 1) dX6_bits_10 (by decide) ?_
    refine r_iand dX6_bits_11 ?_
    refine r_iadd dX6_bits_12 ?_
    refine r_istore_nL [some (.int l0), some (.int (l1 + (l2 &&& 1))), some (.int l2)] dX6_bits_13 (by decide) rfl ?_
    refine r_iload_n dX6_bits_14 rfl ?_
    refine r_iconst (v := 1) dX6_bits_15 (by decide) ?_
    refine r_ishr dX6_bits_16 ?_
    refine r_istore_nL [some (.int l0), some (.int (l1 + (l2 &&& 1))), some (.int (l2 >>> (1 &&& 31)))] dX6_bits_17 (by decide) rfl ?_
    refine r_goto (tgt := 4) dX6_bits_18 (by decide) ?_
    exact k2 q1

set_option maxRecDepth 20000 in
set_option maxHeartbeats 2000000 in
theorem s_X6_pairings_0 {G : GG} {nc ns : Nat} {h : PH} {Z : Option Value → PH → Prop} {l0 : Nat} {P1 : PH → Prop}
    (c1 : hK h l0 = 16)
    (k2 : (16 < (hI h l0 0)) → Z (some (.long (-3))) h)
    (e3 : (¬ 16 < (hI h l0 0)) → ((hI h l0 1) ≤ 16) → Ev G m_X6_work [.ref l0] h 0 0 (RV P1))
    (k4 : (¬ 16 < (hI h l0 0)) → ((hI h l0 1) ≤ 16) → ∀ (h1 : PH), P1 h1 → hN h1 = (hN h) → hS h1 = (hS h) → RR G nc ns m_X6_pairings 26 [some (.ref l0), none, none, none, none] [] h1 Z)
    (k5 : (¬ 16 < (hI h l0 0)) → (¬ (hI h l0 1) ≤ 16) → Z (some (.long (-3))) h) :
    RR G nc ns m_X6_pairings 0 [some (.ref l0), none, none, none, none] [] h Z := by
  refine r_aload_n dX6_pairings_0 rfl ?_
  refine r_get (c := 6) (k := 0) dX6_pairings_1 rfl rfl (by decide) fl_RX6_126 (c1) rfl ?_
  refine r_bipush (v := 16) dX6_pairings_4 (by decide) ?_
  refine r_icmp_gt 18 dX6_pairings_6 (by decide) (fun q1 => ?_) (fun q1 => ?_)
  · refine r_ldc2 (v := (-3)) dX6_pairings_18 cn_RX6_193 ?_
    exact r_lreturn dX6_pairings_21 rfl (k2 q1)
  · refine r_aload_n dX6_pairings_9 rfl ?_
    refine r_get (c := 6) (k := 1) dX6_pairings_10 rfl rfl (by decide) fl_RX6_129 (c1) rfl ?_
    refine r_bipush (v := 16) dX6_pairings_13 (by decide) ?_
    refine r_icmp_le 22 dX6_pairings_15 (by decide) (fun q2 => ?_) (fun q2 => ?_)
    · refine r_aload_n dX6_pairings_22 rfl ?_
      refine r_callV (c := 6) (mc := 0) (ms := 0) dX6_pairings_23 ck_X6_work iv_X6_work sl_X6_work lk_RX6_167 rfl rfl (c1) (by decide) (by decide) (As := []) rfl rfl (Nat.le_of_ble_eq_true rfl) (Or.inl rfl) (Or.inl rfl) (e3 q1 q2) ?_
      rintro v1 h1 ⟨rfl, z1⟩ n1 t1
      exact k4 q1 q2 h1 z1 n1 t1
    · refine r_ldc2 (v := (-3)) dX6_pairings_18 cn_RX6_193 ?_
      exact r_lreturn dX6_pairings_21 rfl (k5 q1 q2)

set_option maxRecDepth 20000 in
set_option maxHeartbeats 2000000 in
theorem s_X6_pairings_26 {G : GG} {nc ns : Nat} {h : PH} {Z : Option Value → PH → Prop} {l0 : Nat}
    (c1 : hK h l0 = 16)
    (k2 : ((hI h l0 14) = 0) → RR G nc ns m_X6_pairings 47 [some (.ref l0), some (.int (1 <<< ((hI h l0 1) &&& 31))), some (.int 0), none, none] [] h Z)
    (k3 : (¬ (hI h l0 14) = 0) → Z (some (.long (hJ h l0 15))) h) :
    RR G nc ns m_X6_pairings 26 [some (.ref l0), none, none, none, none] [] h Z := by
  refine r_aload_n dX6_pairings_26 rfl ?_
  refine r_get (c := 6) (k := 14) dX6_pairings_27 rfl rfl (by decide) fl_RX6_140 (c1) rfl ?_
  refine r_if_eq 38 dX6_pairings_30 (by decide) (fun q1 => ?_) (fun q1 => ?_)
  · refine r_iconst (v := 1) dX6_pairings_38 (by decide) ?_
    refine r_aload_n dX6_pairings_39 rfl ?_
    refine r_get (c := 6) (k := 1) dX6_pairings_40 rfl rfl (by decide) fl_RX6_129 (c1) rfl ?_
    refine r_ishl dX6_pairings_43 ?_
    refine r_istore_nL [some (.ref l0), some (.int (1 <<< ((hI h l0 1) &&& 31))), none, none, none] dX6_pairings_44 (by decide) rfl ?_
    refine r_iconst (v := 0) dX6_pairings_45 (by decide) ?_
    refine r_istore_nL [some (.ref l0), some (.int (1 <<< ((hI h l0 1) &&& 31))), some (.int 0), none, none] dX6_pairings_46 (by decide) rfl ?_
    exact k2 q1
  · refine r_aload_n dX6_pairings_33 rfl ?_
    refine r_get (c := 6) (k := 15) dX6_pairings_34 rfl rfl (by decide) fl_RX6_195 (c1) rfl ?_
    exact r_lreturn dX6_pairings_37 rfl (k3 q1)

set_option maxRecDepth 20000 in
set_option maxHeartbeats 2000000 in
theorem s_X6_pairings_47 {G : GG} {nc ns : Nat} {h : PH} {Z : Option Value → PH → Prop} {l0 : Nat} {l1 : Int32} {l2 : Int32}
    (k1 : (l1 ≤ l2) → RR G nc ns m_X6_pairings 75 [some (.ref l0), some (.int l1), some (.int 0), none, none] [] h Z)
    (c2 : hK h l0 = 16)
    (c3 : (hR h l0 16) ≠ 0)
    (c4 : hK h (hR h l0 16) = 3)
    (c5 : (¬ l1 ≤ l2) → (¬ l2 = 0) → vp_in l2 (hL h (hR h l0 16)))
    (k6 : (¬ l1 ≤ l2) → (¬ l2 = 0) → RR G nc ns m_X6_pairings 47 [some (.ref l0), some (.int l1), some (.int (l2 + 1)), none, none] [] (sJ h (hR h l0 16) (Int32.toNatClampNeg l2) 0) Z)
    (c7 : (¬ l1 ≤ l2) → (l2 = 0) → vp_in l2 (hL h (hR h l0 16)))
    (k8 : (¬ l1 ≤ l2) → (l2 = 0) → RR G nc ns m_X6_pairings 47 [some (.ref l0), some (.int l1), some (.int (l2 + 1)), none, none] [] (sJ h (hR h l0 16) (Int32.toNatClampNeg l2) 1) Z) :
    RR G nc ns m_X6_pairings 47 [some (.ref l0), some (.int l1), some (.int l2), none, none] [] h Z := by
  refine r_iload_n dX6_pairings_47 rfl ?_
  refine r_iload_n dX6_pairings_48 rfl ?_
  refine r_icmp_ge 73 dX6_pairings_49 (by decide) (fun q1 => ?_) (fun q1 => ?_)
  · refine r_iconst (v := 0) dX6_pairings_73 (by decide) ?_
    refine r_istore_nL [some (.ref l0), some (.int l1), some (.int 0), none, none] dX6_pairings_74 (by decide) rfl ?_
    exact k1 q1
  · refine r_aload_n dX6_pairings_52 rfl ?_
    refine r_getR (c := 6) (k := 16) dX6_pairings_53 rfl rfl (by decide) fl_RX6_39 (c2) rfl (c3) ?_
    refine r_iload_n dX6_pairings_56 rfl ?_
    refine r_iload_n dX6_pairings_57 rfl ?_
    refine r_if_ne 65 dX6_pairings_58 (by decide) (fun q2 => ?_) (fun q2 => ?_)
    · refine r_lconst (v := 0) dX6_pairings_65 (by decide) ?_
      refine r_lastoreJ (Int32.toNatClampNeg l2) dX6_pairings_66 (c4) (c5 q1 q2) rfl ?_
      refine r_iincL (v := l2 + 1) [some (.ref l0), some (.int l1), some (.int (l2 + 1)), none, none] dX6_pairings_67 rfl (by decide) rfl rfl ?_
      refine r_goto (tgt := 47) dX6_pairings_70 (by decide) ?_
      exact k6 q1 q2
    · refine r_lconst (v := 1) dX6_pairings_61 (by decide) ?_
      refine r_goto (tgt := 66) dX6_pairings_62 (by decide) ?_
      refine r_lastoreJ (Int32.toNatClampNeg l2) dX6_pairings_66 (c4) (c7 q1 q2) rfl ?_
      refine r_iincL (v := l2 + 1) [some (.ref l0), some (.int l1), some (.int (l2 + 1)), none, none] dX6_pairings_67 rfl (by decide) rfl rfl ?_
      refine r_goto (tgt := 47) dX6_pairings_70 (by decide) ?_
      exact k8 q1 q2

set_option maxRecDepth 20000 in
set_option maxHeartbeats 2000000 in
theorem s_X6_pairings_75 {G : GG} {nc ns : Nat} {h : PH} {Z : Option Value → PH → Prop} {l0 : Nat} {l1 : Int32} {l2 : Int32}
    (c1 : hK h l0 = 16)
    (k2 : ((hI h l0 0) ≤ l2) → RR G nc ns m_X6_pairings 192 [some (.ref l0), some (.int l1), some (.int 0), none, none] [] (sJ h l0 15 0) Z)
    (k3 : (¬ (hI h l0 0) ≤ l2) → RR G nc ns m_X6_pairings 87 [some (.ref l0), some (.int l1), some (.int l2), some (.int (l1 - 1)), none] [] h Z) :
    RR G nc ns m_X6_pairings 75 [some (.ref l0), some (.int l1), some (.int l2), none, none] [] h Z := by
  refine r_iload_n dX6_pairings_75 rfl ?_
  refine r_aload_n dX6_pairings_76 rfl ?_
  refine r_get (c := 6) (k := 0) dX6_pairings_77 rfl rfl (by decide) fl_RX6_126 (c1) rfl ?_
  refine r_icmp_ge 185 dX6_pairings_80 (by decide) (fun q1 => ?_) (fun q1 => ?_)
  · refine r_aload_n dX6_pairings_185 rfl ?_
    refine r_lconst (v := 0) dX6_pairings_186 (by decide) ?_
    refine r_putJ (c := 6) (k := 15) dX6_pairings_187 rfl rfl (by decide) fl_RX6_195 (c1) (Or.inl rfl) rfl ?_
    refine r_iconst (v := 0) dX6_pairings_190 (by decide) ?_
    refine r_istore_nL [some (.ref l0), some (.int l1), some (.int 0), none, none] dX6_pairings_191 (by decide) rfl ?_
    exact k2 q1
  · refine r_iload_n dX6_pairings_83 rfl ?_
    refine r_iconst (v := 1) dX6_pairings_84 (by decide) ?_
    refine r_isub dX6_pairings_85 ?_
    refine r_istore_nL [some (.ref l0), some (.int l1), some (.int l2), some (.int (l1 - 1)), none] dX6_pairings_86 (by decide) rfl ?_
    exact k3 q1

set_option maxRecDepth 20000 in
set_option maxHeartbeats 2000000 in
theorem s_X6_pairings_87 {G : GG} {nc ns : Nat} {h : PH} {Z : Option Value → PH → Prop} {l0 : Nat} {l1 : Int32} {l2 : Int32} {l3 : Int32}
    (k1 : (l3 < 0) → RR G nc ns m_X6_pairings 75 [some (.ref l0), some (.int l1), some (.int (l2 + 1)), none, none] [] h Z)
    (k2 : (¬ l3 < 0) → RR G nc ns m_X6_pairings 94 [some (.ref l0), some (.int l1), some (.int l2), some (.int l3), some (.int 0)] [] h Z) :
    RR G nc ns m_X6_pairings 87 [some (.ref l0), some (.int l1), some (.int l2), some (.int l3), none] [] h Z := by
  refine r_iload_n dX6_pairings_87 rfl ?_
  refine r_if_lt 179 dX6_pairings_88 (by decide) (fun q1 => ?_) (fun q1 => ?_)
  · refine r_iincL (v := l2 + 1) [some (.ref l0), some (.int l1), some (.int (l2 + 1)), some (.int l3), none] dX6_pairings_179 rfl (by decide) rfl rfl ?_
    refine r_goto (tgt := 75) dX6_pairings_182 (by decide) ?_
    exact RR.sub (k1 q1) (And.intro rfl (And.intro rfl (And.intro rfl (trivial))))
  · refine r_iconst (v := 0) dX6_pairings_91 (by decide) ?_
    refine r_istoreL [some (.ref l0), some (.int l1), some (.int l2), some (.int l3), some (.int 0)] dX6_pairings_92 (by decide) rfl ?_
    exact k2 q1

set_option maxRecDepth 20000 in
set_option maxHeartbeats 2000000 in
theorem s_X6_pairings_94 {G : GG} {nc ns : Nat} {h : PH} {Z : Option Value → PH → Prop} {l0 : Nat} {l1 : Int32} {l2 : Int32} {l3 : Int32} {l4 : Int32}
    (c1 : hK h l0 = 16)
    (k2 : ((hI h l0 1) ≤ l4) → RR G nc ns m_X6_pairings 87 [some (.ref l0), some (.int l1), some (.int l2), some (.int (l3 + (-1))), none] [] h Z)
    (c3 : (hR h l0 16) ≠ 0)
    (c4 : hK h (hR h l0 16) = 3)
    (c5 : (¬ (hI h l0 1) ≤ l4) → vp_in l3 (hL h (hR h l0 16)))
    (k6 : (¬ (hI h l0 1) ≤ l4) → ((lg_cmp (hJ h (hR h l0 16) (Int32.toNatClampNeg l3)) 0) ≤ 0) → RR G nc ns m_X6_pairings 87 [some (.ref l0), some (.int l1), some (.int l2), some (.int (l3 + (-1))), none] [] h Z)
    (c7 : (hR h l0 2) ≠ 0)
    (c8 : hK h (hR h l0 2) = 4)
    (c9 : (¬ (hI h l0 1) ≤ l4) → (¬ (lg_cmp (hJ h (hR h l0 16) (Int32.toNatClampNeg l3)) 0) ≤ 0) → vp_in ((50 * l2) + l4) (hL h (hR h l0 2)))
    (k10 : (¬ (hI h l0 1) ≤ l4) → (¬ (lg_cmp (hJ h (hR h l0 16) (Int32.toNatClampNeg l3)) 0) ≤ 0) → ((hI h (hR h l0 2) (Int32.toNatClampNeg ((50 * l2) + l4))) = 0) → RR G nc ns m_X6_pairings 94 [some (.ref l0), some (.int l1), some (.int l2), some (.int l3), some (.int (l4 + 1))] [] h Z)
    (k11 : (¬ (hI h l0 1) ≤ l4) → (¬ (lg_cmp (hJ h (hR h l0 16) (Int32.toNatClampNeg l3)) 0) ≤ 0) → (¬ (hI h (hR h l0 2) (Int32.toNatClampNeg ((50 * l2) + l4))) = 0) → (¬ ((l3 >>> (l4 &&& 31)) &&& 1) = 0) → RR G nc ns m_X6_pairings 94 [some (.ref l0), some (.int l1), some (.int l2), some (.int l3), some (.int (l4 + 1))] [] h Z)
    (c12 : (¬ (hI h l0 1) ≤ l4) → (¬ (lg_cmp (hJ h (hR h l0 16) (Int32.toNatClampNeg l3)) 0) ≤ 0) → (¬ (hI h (hR h l0 2) (Int32.toNatClampNeg ((50 * l2) + l4))) = 0) → (((l3 >>> (l4 &&& 31)) &&& 1) = 0) → vp_in (l3 ||| (1 <<< (l4 &&& 31))) (hL h (hR h l0 16)))
    (k13 : (¬ (hI h l0 1) ≤ l4) → (¬ (lg_cmp (hJ h (hR h l0 16) (Int32.toNatClampNeg l3)) 0) ≤ 0) → (¬ (hI h (hR h l0 2) (Int32.toNatClampNeg ((50 * l2) + l4))) = 0) → (((l3 >>> (l4 &&& 31)) &&& 1) = 0) → RR G nc ns m_X6_pairings 94 [some (.ref l0), some (.int l1), some (.int l2), some (.int l3), some (.int (l4 + 1))] [] (sJ h (hR h l0 16) (Int32.toNatClampNeg (l3 ||| (1 <<< (l4 &&& 31)))) ((hJ h (hR h l0 16) (Int32.toNatClampNeg (l3 ||| (1 <<< (l4 &&& 31))))) + (hJ h (hR h l0 16) (Int32.toNatClampNeg l3)))) Z) :
    RR G nc ns m_X6_pairings 94 [some (.ref l0), some (.int l1), some (.int l2), some (.int l3), some (.int l4)] [] h Z := by
  refine r_iload dX6_pairings_94 rfl ?_
  refine r_aload_n dX6_pairings_96 rfl ?_
  refine r_get (c := 6) (k := 1) dX6_pairings_97 rfl rfl (by decide) fl_RX6_129 (c1) rfl ?_
  refine r_icmp_ge 173 dX6_pairings_100 (by decide) (fun q1 => ?_) (fun q1 => ?_)
  · refine r_iincL (v := l3 + (-1)) [some (.ref l0), some (.int l1), some (.int l2), some (.int (l3 + (-1))), some (.int l4)] dX6_pairings_173 rfl (by decide) rfl rfl ?_
    refine r_goto (tgt := 87) dX6_pairings_176 (by decide) ?_
    exact RR.sub (k2 q1) (And.intro rfl (And.intro rfl (And.intro rfl (And.intro rfl (trivial)))))
  · refine r_aload_n dX6_pairings_103 rfl ?_
    refine r_getR (c := 6) (k := 16) dX6_pairings_104 rfl rfl (by decide) fl_RX6_39 (c1) rfl (c3) ?_
    refine r_iload_n dX6_pairings_107 rfl ?_
    refine r_laloadJ (Int32.toNatClampNeg l3) dX6_pairings_108 (c4) (c5 q1) rfl ?_
    refine r_lconst (v := 0) dX6_pairings_109 (by decide) ?_
    refine r_lcmp dX6_pairings_110 ?_
    refine r_if_le 173 dX6_pairings_111 (by decide) (fun q2 => ?_) (fun q2 => ?_)
    · refine r_iincL (v := l3 + (-1)) [some (.ref l0), some (.int l1), some (.int l2), some (.int (l3 + (-1))), some (.int l4)] dX6_pairings_173 rfl (by decide) rfl rfl ?_
      refine r_goto (tgt := 87) dX6_pairings_176 (by decide) ?_
      exact RR.sub (k6 q1 q2) (And.intro rfl (And.intro rfl (And.intro rfl (And.intro rfl (trivial)))))
    · refine r_aload_n dX6_pairings_114 rfl ?_
      refine r_getR (c := 6) (k := 2) dX6_pairings_115 rfl rfl (by decide) fl_RX6_7 (c1) rfl (c7) ?_
      refine r_bipush (v := 50) dX6_pairings_118 (by decide) ?_
      refine r_iload_n dX6_pairings_120 rfl ?_
      refine r_imul dX6_pairings_121 ?_
      refine r_iload dX6_pairings_122 rfl ?_
      refine r_iadd dX6_pairings_124 ?_
      refine r_baloadJ (Int32.toNatClampNeg ((50 * l2) + l4)) dX6_pairings_125 (c8) (c9 q1 q2) rfl ?_
      refine r_if_eq 167 dX6_pairings_126 (by decide) (fun q3 => ?_) (fun q3 => ?_)
      · refine r_iincL (v := l4 + 1) [some (.ref l0), some (.int l1), some (.int l2), some (.int l3), some (.int (l4 + 1))] dX6_pairings_167 rfl (by decide) rfl rfl ?_
        refine r_goto (tgt := 94) dX6_pairings_170 (by decide) ?_
        exact k10 q1 q2 q3
      · refine r_iload_n dX6_pairings_129 rfl ?_
        refine r_iload dX6_pairings_130 rfl ?_
        refine r_ishr dX6_pairings_132 ?_
        refine r_iconst (v := 1) dX6_pairings_133 (by decide) ?_
        refine r_iand dX6_pairings_134 ?_
        refine r_if_ne 167 dX6_pairings_135 (by decide) (fun q4 => ?_) (fun q4 => ?_)
        · refine r_iincL (v := l4 + 1) [some (.ref l0), some (.int l1), some (.int l2), some (.int l3), some (.int (l4 + 1))] dX6_pairings_167 rfl (by decide) rfl rfl ?_
          refine r_goto (tgt := 94) dX6_pairings_170 (by decide) ?_
          exact k11 q1 q2 q3 q4
        · refine r_aload_n dX6_pairings_138 rfl ?_
          refine r_getR (c := 6) (k := 16) dX6_pairings_139 rfl rfl (by decide) fl_RX6_39 (c1) rfl (c3) ?_
          refine r_iload_n dX6_pairings_142 rfl ?_
          refine r_iconst (v := 1) dX6_pairings_143 (by decide) ?_
          refine r_iload dX6_pairings_144 rfl ?_
          refine r_ishl dX6_pairings_146 ?_
          refine r_ior dX6_pairings_147 ?_
          refine r_aload_n dX6_pairings_148 rfl ?_
          refine r_getR (c := 6) (k := 16) dX6_pairings_149 rfl rfl (by decide) fl_RX6_39 (c1) rfl (c3) ?_
          refine r_iload_n dX6_pairings_152 rfl ?_
          refine r_iconst (v := 1) dX6_pairings_153 (by decide) ?_
          refine r_iload dX6_pairings_154 rfl ?_
          refine r_ishl dX6_pairings_156 ?_
          refine r_ior dX6_pairings_157 ?_
          refine r_laloadJ (Int32.toNatClampNeg (l3 ||| (1 <<< (l4 &&& 31)))) dX6_pairings_158 (c4) (c12 q1 q2 q3 q4) rfl ?_
          refine r_aload_n dX6_pairings_159 rfl ?_
          refine r_getR (c := 6) (k := 16) dX6_pairings_160 rfl rfl (by decide) fl_RX6_39 (c1) rfl (c3) ?_
          refine r_iload_n dX6_pairings_163 rfl ?_
          refine r_laloadJ (Int32.toNatClampNeg l3) dX6_pairings_164 (c4) (c5 q1) rfl ?_
          refine r_ladd dX6_pairings_165 ?_
          refine r_lastoreJ (Int32.toNatClampNeg (l3 ||| (1 <<< (l4 &&& 31)))) dX6_pairings_166 (c4) (c12 q1 q2 q3 q4) rfl ?_
          refine r_iincL (v := l4 + 1) [some (.ref l0), some (.int l1), some (.int l2), some (.int l3), some (.int (l4 + 1))] dX6_pairings_167 rfl (by decide) rfl rfl ?_
          refine r_goto (tgt := 94) dX6_pairings_170 (by decide) ?_
          exact k13 q1 q2 q3 q4

set_option maxRecDepth 20000 in
set_option maxHeartbeats 2000000 in
theorem s_X6_pairings_192 {G : GG} {nc ns : Nat} {h : PH} {Z : Option Value → PH → Prop} {l0 : Nat} {l1 : Int32} {l2 : Int32} {x1 : Int32}
    (c1 : hK h l0 = 16)
    (k2 : (l1 ≤ l2) → Z (some (.long (hJ h l0 15))) (sI h l0 14 1))
    (e3 : (¬ l1 ≤ l2) → Ev G m_X6_bits [.int l2] h 0 0 (Ret (some (.int x1)) h))
    (k4 : (¬ l1 ≤ l2) → (¬ x1 = (hI h l0 4)) → RR G nc ns m_X6_pairings 192 [some (.ref l0), some (.int l1), some (.int (l2 + 1)), none, none] [] (sJ h l0 15 (hJ h l0 15)) Z)
    (c5 : (hR h l0 16) ≠ 0)
    (c6 : hK h (hR h l0 16) = 3)
    (c7 : (¬ l1 ≤ l2) → (x1 = (hI h l0 4)) → vp_in l2 (hL h (hR h l0 16)))
    (k8 : (¬ l1 ≤ l2) → (x1 = (hI h l0 4)) → RR G nc ns m_X6_pairings 192 [some (.ref l0), some (.int l1), some (.int (l2 + 1)), none, none] [] (sJ h l0 15 ((hJ h l0 15) + (hJ h (hR h l0 16) (Int32.toNatClampNeg l2)))) Z) :
    RR G nc ns m_X6_pairings 192 [some (.ref l0), some (.int l1), some (.int l2), none, none] [] h Z := by
  refine r_iload_n dX6_pairings_192 rfl ?_
  refine r_iload_n dX6_pairings_193 rfl ?_
  refine r_icmp_ge 236 dX6_pairings_194 (by decide) (fun q1 => ?_) (fun q1 => ?_)
  · refine r_aload_n dX6_pairings_236 rfl ?_
    refine r_iconst (v := 1) dX6_pairings_237 (by decide) ?_
    refine r_putI (c := 6) (k := 14) dX6_pairings_238 rfl rfl (by decide) fl_RX6_140 (c1) (Or.inl rfl) (Or.inr ⟨rfl, by decide⟩) ?_
    refine r_aload_n dX6_pairings_241 rfl ?_
    refine r_get (c := 6) (k := 15) dX6_pairings_242 rfl rfl (by decide) fl_RX6_195 (c1) rfl ?_
    exact r_lreturn dX6_pairings_245 rfl (k2 q1)
  · refine r_aload_n dX6_pairings_197 rfl ?_
    refine r_iload_n dX6_pairings_198 rfl ?_
    refine r_callS1 (mc := 0) (ms := 0) dX6_pairings_199 ck_X6_bits sv_X6_bits lk_RX6_199 (by decide) (by decide) (As := [.int l2]) rfl rfl (Nat.le_of_ble_eq_true rfl) (Or.inl rfl) (Or.inl rfl) (e3 q1) ?_
    refine r_aload_n dX6_pairings_202 rfl ?_
    refine r_get (c := 6) (k := 4) dX6_pairings_203 rfl rfl (by decide) fl_RX6_143 (c1) rfl ?_
    refine r_icmp_ne 223 dX6_pairings_206 (by decide) (fun q2 => ?_) (fun q2 => ?_)
    · refine r_aload_n dX6_pairings_223 rfl ?_
      refine r_get (c := 6) (k := 15) dX6_pairings_224 rfl rfl (by decide) fl_RX6_195 (c1) rfl ?_
      refine r_putJ (c := 6) (k := 15) dX6_pairings_227 rfl rfl (by decide) fl_RX6_195 (c1) (Or.inl rfl) rfl ?_
      refine r_iincL (v := l2 + 1) [some (.ref l0), some (.int l1), some (.int (l2 + 1)), none, none] dX6_pairings_230 rfl (by decide) rfl rfl ?_
      refine r_goto (tgt := 192) dX6_pairings_233 (by decide) ?_
      exact k4 q1 q2
    · refine r_aload_n dX6_pairings_209 rfl ?_
      refine r_get (c := 6) (k := 15) dX6_pairings_210 rfl rfl (by decide) fl_RX6_195 (c1) rfl ?_
      refine r_aload_n dX6_pairings_213 rfl ?_
      refine r_getR (c := 6) (k := 16) dX6_pairings_214 rfl rfl (by decide) fl_RX6_39 (c1) rfl (c5) ?_
      refine r_iload_n dX6_pairings_217 rfl ?_
      refine r_laloadJ (Int32.toNatClampNeg l2) dX6_pairings_218 (c6) (c7 q1 q2) rfl ?_
      refine r_ladd dX6_pairings_219 ?_
      refine r_goto (tgt := 227) dX6_pairings_220 (by decide) ?_
      refine r_putJ (c := 6) (k := 15) dX6_pairings_227 rfl rfl (by decide) fl_RX6_195 (c1) (Or.inl rfl) rfl ?_
      refine r_iincL (v := l2 + 1) [some (.ref l0), some (.int l1), some (.int (l2 + 1)), none, none] dX6_pairings_230 rfl (by decide) rfl rfl ?_
      refine r_goto (tgt := 192) dX6_pairings_233 (by decide) ?_
      exact k8 q1 q2

set_option maxRecDepth 20000 in
set_option maxHeartbeats 2000000 in
theorem s_X6_thing_0 {G : GG} {nc ns : Nat} {h : PH} {Z : Option Value → PH → Prop} {l0 : Nat}
    (c1 : hK h l0 = 16)
    (k2 : (¬ (hI h l0 17) = 40) → Z (some (.int ((hI (sI (sI h l0 17 ((hI h l0 17) + 1)) l0 19 0) l0 17) - 1))) (sI (sI h l0 17 ((hI h l0 17) + 1)) l0 19 0))
    (k3 : ((hI h l0 17) = 40) → Z (some (.int (-2))) h) :
    RR G nc ns m_X6_thing 0 [some (.ref l0)] [] h Z := by
  refine r_aload_n dX6_thing_0 rfl ?_
  refine r_get (c := 6) (k := 17) dX6_thing_1 rfl rfl (by decide) fl_RX6_177 (c1) rfl ?_
  refine r_bipush (v := 40) dX6_thing_4 (by decide) ?_
  refine r_icmp_ne 12 dX6_thing_6 (by decide) (fun q1 => ?_) (fun q1 => ?_)
  · refine r_aload_n dX6_thing_12 rfl ?_
    refine r_dup dX6_thing_13 rfl ?_
    refine r_get (c := 6) (k := 17) dX6_thing_14 rfl rfl (by decide) fl_RX6_177 (c1) rfl ?_
    refine r_iconst (v := 1) dX6_thing_17 (by decide) ?_
    refine r_iadd dX6_thing_18 ?_
    refine r_putI (c := 6) (k := 17) dX6_thing_19 rfl rfl (by decide) fl_RX6_177 (c1) (Or.inl rfl) (Or.inl rfl) ?_
    refine r_aload_n dX6_thing_22 rfl ?_
    refine r_iconst (v := 0) dX6_thing_23 (by decide) ?_
    refine r_putI (c := 6) (k := 19) dX6_thing_24 rfl rfl (by decide) fl_RX6_202 (c1) (Or.inl rfl) (Or.inr ⟨rfl, by decide⟩) ?_
    refine r_aload_n dX6_thing_27 rfl ?_
    refine r_get (c := 6) (k := 17) dX6_thing_28 rfl rfl (by decide) fl_RX6_177 (c1) rfl ?_
    refine r_iconst (v := 1) dX6_thing_31 (by decide) ?_
    refine r_isub dX6_thing_32 ?_
    exact r_ireturn dX6_thing_33 rfl (k2 q1)
  · refine r_bipush (v := (-2)) dX6_thing_9 (by decide) ?_
    exact r_ireturn dX6_thing_11 rfl (k3 q1)

set_option maxRecDepth 20000 in
set_option maxHeartbeats 2000000 in
theorem s_X6_tell_0 {G : GG} {nc ns : Nat} {h : PH} {Z : Option Value → PH → Prop} {l0 : Nat} {l1 : Int32} {l2 : Int32}
    (k1 : (l1 < 0) → Z (some (.int (-1))) h)
    (c2 : hK h l0 = 16)
    (k3 : (¬ l1 < 0) → ((hI h l0 17) ≤ l1) → Z (some (.int (-1))) h)
    (k4 : (¬ l1 < 0) → (¬ (hI h l0 17) ≤ l1) → (l2 < 0) → Z (some (.int (-1))) h)
    (k5 : (¬ l1 < 0) → (¬ (hI h l0 17) ≤ l1) → (¬ l2 < 0) → (l2 < (hI h l0 17)) → (l1 = l2) → Z (some (.int (-3))) h)
    (c6 : (hR h l0 18) ≠ 0)
    (c7 : hK h (hR h l0 18) = 4)
    (c8 : (¬ l1 < 0) → (¬ (hI h l0 17) ≤ l1) → (¬ l2 < 0) → (l2 < (hI h l0 17)) → (¬ l1 = l2) → vp_in ((50 * l2) + l1) (hL h (hR h l0 18)))
    (c9 : (¬ l1 < 0) → (¬ (hI h l0 17) ≤ l1) → (¬ l2 < 0) → (l2 < (hI h l0 17)) → (¬ l1 = l2) → ((hI h (hR h l0 18) (Int32.toNatClampNeg ((50 * l2) + l1))) = 0) → vp_in ((50 * l1) + l2) (hL h (hR h l0 18)))
    (k10 : (¬ l1 < 0) → (¬ (hI h l0 17) ≤ l1) → (¬ l2 < 0) → (l2 < (hI h l0 17)) → (¬ l1 = l2) → ((hI h (hR h l0 18) (Int32.toNatClampNeg ((50 * l2) + l1))) = 0) → ((hI h (hR h l0 18) (Int32.toNatClampNeg ((50 * l1) + l2))) = 0) → RR G nc ns m_X6_tell 66 [some (.ref l0), some (.int l1), some (.int l2), some (.int 0), none] [] h Z)
    (k11 : (¬ l1 < 0) → (¬ (hI h l0 17) ≤ l1) → (¬ l2 < 0) → (l2 < (hI h l0 17)) → (¬ l1 = l2) → ((hI h (hR h l0 18) (Int32.toNatClampNeg ((50 * l2) + l1))) = 0) → (¬ (hI h (hR h l0 18) (Int32.toNatClampNeg ((50 * l1) + l2))) = 0) → Z (some (.int 0)) h)
    (k12 : (¬ l1 < 0) → (¬ (hI h l0 17) ≤ l1) → (¬ l2 < 0) → (l2 < (hI h l0 17)) → (¬ l1 = l2) → (¬ (hI h (hR h l0 18) (Int32.toNatClampNeg ((50 * l2) + l1))) = 0) → Z (some (.int (-3))) h)
    (k13 : (¬ l1 < 0) → (¬ (hI h l0 17) ≤ l1) → (¬ l2 < 0) → (¬ l2 < (hI h l0 17)) → Z (some (.int (-1))) h) :
    RR G nc ns m_X6_tell 0 [some (.ref l0), some (.int l1), some (.int l2), none, none] [] h Z := by
  refine r_iload_n dX6_tell_0 rfl ?_
  refine r_if_lt 24 dX6_tell_1 (by decide) (fun q1 => ?_) (fun q1 => ?_)
  · refine r_iconst (v := (-1)) dX6_tell_24 (by decide) ?_
    exact r_ireturn dX6_tell_25 rfl (k1 q1)
  · refine r_iload_n dX6_tell_4 rfl ?_
    refine r_aload_n dX6_tell_5 rfl ?_
    refine r_get (c := 6) (k := 17) dX6_tell_6 rfl rfl (by decide) fl_RX6_177 (c2) rfl ?_
    refine r_icmp_ge 24 dX6_tell_9 (by decide) (fun q2 => ?_) (fun q2 => ?_)
    · refine r_iconst (v := (-1)) dX6_tell_24 (by decide) ?_
      exact r_ireturn dX6_tell_25 rfl (k3 q1 q2)
    · refine r_iload_n dX6_tell_12 rfl ?_
      refine r_if_lt 24 dX6_tell_13 (by decide) (fun q3 => ?_) (fun q3 => ?_)
      · refine r_iconst (v := (-1)) dX6_tell_24 (by decide) ?_
        exact r_ireturn dX6_tell_25 rfl (k4 q1 q2 q3)
      · refine r_iload_n dX6_tell_16 rfl ?_
        refine r_aload_n dX6_tell_17 rfl ?_
        refine r_get (c := 6) (k := 17) dX6_tell_18 rfl rfl (by decide) fl_RX6_177 (c2) rfl ?_
        refine r_icmp_lt 26 dX6_tell_21 (by decide) (fun q4 => ?_) (fun q4 => ?_)
        · refine r_iload_n dX6_tell_26 rfl ?_
          refine r_iload_n dX6_tell_27 rfl ?_
          refine r_icmp_eq 45 dX6_tell_28 (by decide) (fun q5 => ?_) (fun q5 => ?_)
          · refine r_bipush (v := (-3)) dX6_tell_45 (by decide) ?_
            exact r_ireturn dX6_tell_47 rfl (k5 q1 q2 q3 q4 q5)
          · refine r_aload_n dX6_tell_31 rfl ?_
            refine r_getR (c := 6) (k := 18) dX6_tell_32 rfl rfl (by decide) fl_RX6_43 (c2) rfl (c6) ?_
            refine r_bipush (v := 50) dX6_tell_35 (by decide) ?_
            refine r_iload_n dX6_tell_37 rfl ?_
            refine r_imul dX6_tell_38 ?_
            refine r_iload_n dX6_tell_39 rfl ?_
            refine r_iadd dX6_tell_40 ?_
            refine r_baloadJ (Int32.toNatClampNeg ((50 * l2) + l1)) dX6_tell_41 (c7) (c8 q1 q2 q3 q4 q5) rfl ?_
            refine r_if_eq 48 dX6_tell_42 (by decide) (fun q6 => ?_) (fun q6 => ?_)
            · refine r_aload_n dX6_tell_48 rfl ?_
              refine r_getR (c := 6) (k := 18) dX6_tell_49 rfl rfl (by decide) fl_RX6_43 (c2) rfl (c6) ?_
              refine r_bipush (v := 50) dX6_tell_52 (by decide) ?_
              refine r_iload_n dX6_tell_54 rfl ?_
              refine r_imul dX6_tell_55 ?_
              refine r_iload_n dX6_tell_56 rfl ?_
              refine r_iadd dX6_tell_57 ?_
              refine r_baloadJ (Int32.toNatClampNeg ((50 * l1) + l2)) dX6_tell_58 (c7) (c9 q1 q2 q3 q4 q5 q6) rfl ?_
              refine r_if_eq 64 dX6_tell_59 (by decide) (fun q7 => ?_) (fun q7 => ?_)
              · refine r_iconst (v := 0) dX6_tell_64 (by decide) ?_
                refine r_istore_nL [some (.ref l0), some (.int l1), some (.int l2), some (.int 0), none] dX6_tell_65 (by decide) rfl ?_
                exact k10 q1 q2 q3 q4 q5 q6 q7
              · refine r_iconst (v := 0) dX6_tell_62 (by decide) ?_
                exact r_ireturn dX6_tell_63 rfl (k11 q1 q2 q3 q4 q5 q6 q7)
            · refine r_bipush (v := (-3)) dX6_tell_45 (by decide) ?_
              exact r_ireturn dX6_tell_47 rfl (k12 q1 q2 q3 q4 q5 q6)
        · refine r_iconst (v := (-1)) dX6_tell_24 (by decide) ?_
          exact r_ireturn dX6_tell_25 rfl (k13 q1 q2 q3 q4)

set_option maxRecDepth 20000 in
set_option maxHeartbeats 2000000 in
theorem s_X6_tell_66 {G : GG} {nc ns : Nat} {h : PH} {Z : Option Value → PH → Prop} {l0 : Nat} {l1 : Int32} {l2 : Int32} {l3 : Int32}
    (c1 : hK h l0 = 16)
    (k2 : ((hI h l0 17) ≤ l3) → Z (some (.int 1)) (sI h l0 19 0))
    (k3 : (¬ (hI h l0 17) ≤ l3) → RR G nc ns m_X6_tell 77 [some (.ref l0), some (.int l1), some (.int l2), some (.int l3), some (.int 0)] [] h Z) :
    RR G nc ns m_X6_tell 66 [some (.ref l0), some (.int l1), some (.int l2), some (.int l3), none] [] h Z := by
  refine r_iload_n dX6_tell_66 rfl ?_
  refine r_aload_n dX6_tell_67 rfl ?_
  refine r_get (c := 6) (k := 17) dX6_tell_68 rfl rfl (by decide) fl_RX6_177 (c1) rfl ?_
  refine r_icmp_ge 151 dX6_tell_71 (by decide) (fun q1 => ?_) (fun q1 => ?_)
  · refine r_aload_n dX6_tell_151 rfl ?_
    refine r_iconst (v := 0) dX6_tell_152 (by decide) ?_
    refine r_putI (c := 6) (k := 19) dX6_tell_153 rfl rfl (by decide) fl_RX6_202 (c1) (Or.inl rfl) (Or.inr ⟨rfl, by decide⟩) ?_
    refine r_iconst (v := 1) dX6_tell_156 (by decide) ?_
    exact r_ireturn dX6_tell_157 rfl (k2 q1)
  · refine r_iconst (v := 0) dX6_tell_74 (by decide) ?_
    refine r_istoreL [some (.ref l0), some (.int l1), some (.int l2), some (.int l3), some (.int 0)] dX6_tell_75 (by decide) rfl ?_
    exact k3 q1

set_option maxRecDepth 20000 in
set_option maxHeartbeats 2000000 in
theorem s_X6_tell_77 {G : GG} {nc ns : Nat} {h : PH} {Z : Option Value → PH → Prop} {l0 : Nat} {l1 : Int32} {l2 : Int32} {l3 : Int32} {l4 : Int32}
    (c1 : hK h l0 = 16)
    (k2 : ((hI h l0 17) ≤ l4) → RR G nc ns m_X6_tell 66 [some (.ref l0), some (.int l1), some (.int l2), some (.int (l3 + 1)), none] [] h Z)
    (c3 : (hR h l0 18) ≠ 0)
    (c4 : hK h (hR h l0 18) = 4)
    (c5 : (¬ (hI h l0 17) ≤ l4) → (l3 = l1) → (l4 = l2) → vp_in ((50 * l3) + l4) (hL h (hR h l0 18)))
    (k6 : (¬ (hI h l0 17) ≤ l4) → (l3 = l1) → (l4 = l2) → RR G nc ns m_X6_tell 77 [some (.ref l0), some (.int l1), some (.int l2), some (.int l3), some (.int (l4 + 1))] [] (sI h (hR h l0 18) (Int32.toNatClampNeg ((50 * l3) + l4)) 1) Z)
    (c7 : (¬ (hI h l0 17) ≤ l4) → (l3 = l1) → (¬ l4 = l2) → vp_in ((50 * l2) + l4) (hL h (hR h l0 18)))
    (k8 : (¬ (hI h l0 17) ≤ l4) → (l3 = l1) → (¬ l4 = l2) → ((hI h (hR h l0 18) (Int32.toNatClampNeg ((50 * l2) + l4))) = 0) → RR G nc ns m_X6_tell 77 [some (.ref l0), some (.int l1), some (.int l2), some (.int l3), some (.int (l4 + 1))] [] h Z)
    (c9 : (¬ (hI h l0 17) ≤ l4) → (l3 = l1) → (¬ l4 = l2) → (¬ (hI h (hR h l0 18) (Int32.toNatClampNeg ((50 * l2) + l4))) = 0) → vp_in ((50 * l3) + l4) (hL h (hR h l0 18)))
    (k10 : (¬ (hI h l0 17) ≤ l4) → (l3 = l1) → (¬ l4 = l2) → (¬ (hI h (hR h l0 18) (Int32.toNatClampNeg ((50 * l2) + l4))) = 0) → RR G nc ns m_X6_tell 77 [some (.ref l0), some (.int l1), some (.int l2), some (.int l3), some (.int (l4 + 1))] [] (sI h (hR h l0 18) (Int32.toNatClampNeg ((50 * l3) + l4)) 1) Z)
    (c11 : (¬ (hI h l0 17) ≤ l4) → (¬ l3 = l1) → vp_in ((50 * l3) + l1) (hL h (hR h l0 18)))
    (k12 : (¬ (hI h l0 17) ≤ l4) → (¬ l3 = l1) → ((hI h (hR h l0 18) (Int32.toNatClampNeg ((50 * l3) + l1))) = 0) → RR G nc ns m_X6_tell 66 [some (.ref l0), some (.int l1), some (.int l2), some (.int (l3 + 1)), none] [] h Z)
    (c13 : (¬ (hI h l0 17) ≤ l4) → (¬ l3 = l1) → (¬ (hI h (hR h l0 18) (Int32.toNatClampNeg ((50 * l3) + l1))) = 0) → (l4 = l2) → vp_in ((50 * l3) + l4) (hL h (hR h l0 18)))
    (k14 : (¬ (hI h l0 17) ≤ l4) → (¬ l3 = l1) → (¬ (hI h (hR h l0 18) (Int32.toNatClampNeg ((50 * l3) + l1))) = 0) → (l4 = l2) → RR G nc ns m_X6_tell 77 [some (.ref l0), some (.int l1), some (.int l2), some (.int l3), some (.int (l4 + 1))] [] (sI h (hR h l0 18) (Int32.toNatClampNeg ((50 * l3) + l4)) 1) Z)
    (c15 : (¬ (hI h l0 17) ≤ l4) → (¬ l3 = l1) → (¬ (hI h (hR h l0 18) (Int32.toNatClampNeg ((50 * l3) + l1))) = 0) → (¬ l4 = l2) → vp_in ((50 * l2) + l4) (hL h (hR h l0 18)))
    (k16 : (¬ (hI h l0 17) ≤ l4) → (¬ l3 = l1) → (¬ (hI h (hR h l0 18) (Int32.toNatClampNeg ((50 * l3) + l1))) = 0) → (¬ l4 = l2) → ((hI h (hR h l0 18) (Int32.toNatClampNeg ((50 * l2) + l4))) = 0) → RR G nc ns m_X6_tell 77 [some (.ref l0), some (.int l1), some (.int l2), some (.int l3), some (.int (l4 + 1))] [] h Z)
    (c17 : (¬ (hI h l0 17) ≤ l4) → (¬ l3 = l1) → (¬ (hI h (hR h l0 18) (Int32.toNatClampNeg ((50 * l3) + l1))) = 0) → (¬ l4 = l2) → (¬ (hI h (hR h l0 18) (Int32.toNatClampNeg ((50 * l2) + l4))) = 0) → vp_in ((50 * l3) + l4) (hL h (hR h l0 18)))
    (k18 : (¬ (hI h l0 17) ≤ l4) → (¬ l3 = l1) → (¬ (hI h (hR h l0 18) (Int32.toNatClampNeg ((50 * l3) + l1))) = 0) → (¬ l4 = l2) → (¬ (hI h (hR h l0 18) (Int32.toNatClampNeg ((50 * l2) + l4))) = 0) → RR G nc ns m_X6_tell 77 [some (.ref l0), some (.int l1), some (.int l2), some (.int l3), some (.int (l4 + 1))] [] (sI h (hR h l0 18) (Int32.toNatClampNeg ((50 * l3) + l4)) 1) Z) :
    RR G nc ns m_X6_tell 77 [some (.ref l0), some (.int l1), some (.int l2), some (.int l3), some (.int l4)] [] h Z := by
  refine r_iload dX6_tell_77 rfl ?_
  refine r_aload_n dX6_tell_79 rfl ?_
  refine r_get (c := 6) (k := 17) dX6_tell_80 rfl rfl (by decide) fl_RX6_177 (c1) rfl ?_
  refine r_icmp_ge 145 dX6_tell_83 (by decide) (fun q1 => ?_) (fun q1 => ?_)
  · refine r_iincL (v := l3 + 1) [some (.ref l0), some (.int l1), some (.int l2), some (.int (l3 + 1)), some (.int l4)] dX6_tell_145 rfl (by decide) rfl rfl ?_
    refine r_goto (tgt := 66) dX6_tell_148 (by decide) ?_
    exact RR.sub (k2 q1) (And.intro rfl (And.intro rfl (And.intro rfl (And.intro rfl (trivial)))))
  · refine r_iload_n dX6_tell_86 rfl ?_
    refine r_iload_n dX6_tell_87 rfl ?_
    refine r_icmp_eq 105 dX6_tell_88 (by decide) (fun q2 => ?_) (fun q2 => ?_)
    · refine r_iload dX6_tell_105 rfl ?_
      refine r_iload_n dX6_tell_107 rfl ?_
      refine r_icmp_eq 126 dX6_tell_108 (by decide) (fun q3 => ?_) (fun q3 => ?_)
      · refine r_aload_n dX6_tell_126 rfl ?_
        refine r_getR (c := 6) (k := 18) dX6_tell_127 rfl rfl (by decide) fl_RX6_43 (c1) rfl (c3) ?_
        refine r_bipush (v := 50) dX6_tell_130 (by decide) ?_
        refine r_iload_n dX6_tell_132 rfl ?_
        refine r_imul dX6_tell_133 ?_
        refine r_iload dX6_tell_134 rfl ?_
        refine r_iadd dX6_tell_136 ?_
        refine r_iconst (v := 1) dX6_tell_137 (by decide) ?_
        refine r_bastoreJ (Int32.toNatClampNeg ((50 * l3) + l4)) dX6_tell_138 (c4) (c5 q1 q2 q3) rfl (by decide) ?_
        refine r_iincL (v := l4 + 1) [some (.ref l0), some (.int l1), some (.int l2), some (.int l3), some (.int (l4 + 1))] dX6_tell_139 rfl (by decide) rfl rfl ?_
        refine r_goto (tgt := 77) dX6_tell_142 (by decide) ?_
        exact k6 q1 q2 q3
      · refine r_aload_n dX6_tell_111 rfl ?_
        refine r_getR (c := 6) (k := 18) dX6_tell_112 rfl rfl (by decide) fl_RX6_43 (c1) rfl (c3) ?_
        refine r_bipush (v := 50) dX6_tell_115 (by decide) ?_
        refine r_iload_n dX6_tell_117 rfl ?_
        refine r_imul dX6_tell_118 ?_
        refine r_iload dX6_tell_119 rfl ?_
        refine r_iadd dX6_tell_121 ?_
        refine r_baloadJ (Int32.toNatClampNeg ((50 * l2) + l4)) dX6_tell_122 (c4) (c7 q1 q2 q3) rfl ?_
        refine r_if_eq 139 dX6_tell_123 (by decide) (fun q4 => ?_) (fun q4 => ?_)
        · refine r_iincL (v := l4 + 1) [some (.ref l0), some (.int l1), some (.int l2), some (.int l3), some (.int (l4 + 1))] dX6_tell_139 rfl (by decide) rfl rfl ?_
          refine r_goto (tgt := 77) dX6_tell_142 (by decide) ?_
          exact k8 q1 q2 q3 q4
        · refine r_aload_n dX6_tell_126 rfl ?_
          refine r_getR (c := 6) (k := 18) dX6_tell_127 rfl rfl (by decide) fl_RX6_43 (c1) rfl (c3) ?_
          refine r_bipush (v := 50) dX6_tell_130 (by decide) ?_
          refine r_iload_n dX6_tell_132 rfl ?_
          refine r_imul dX6_tell_133 ?_
          refine r_iload dX6_tell_134 rfl ?_
          refine r_iadd dX6_tell_136 ?_
          refine r_iconst (v := 1) dX6_tell_137 (by decide) ?_
          refine r_bastoreJ (Int32.toNatClampNeg ((50 * l3) + l4)) dX6_tell_138 (c4) (c9 q1 q2 q3 q4) rfl (by decide) ?_
          refine r_iincL (v := l4 + 1) [some (.ref l0), some (.int l1), some (.int l2), some (.int l3), some (.int (l4 + 1))] dX6_tell_139 rfl (by decide) rfl rfl ?_
          refine r_goto (tgt := 77) dX6_tell_142 (by decide) ?_
          exact k10 q1 q2 q3 q4
    · refine r_aload_n dX6_tell_91 rfl ?_
      refine r_getR (c := 6) (k := 18) dX6_tell_92 rfl rfl (by decide) fl_RX6_43 (c1) rfl (c3) ?_
      refine r_bipush (v := 50) dX6_tell_95 (by decide) ?_
      refine r_iload_n dX6_tell_97 rfl ?_
      refine r_imul dX6_tell_98 ?_
      refine r_iload_n dX6_tell_99 rfl ?_
      refine r_iadd dX6_tell_100 ?_
      refine r_baloadJ (Int32.toNatClampNeg ((50 * l3) + l1)) dX6_tell_101 (c4) (c11 q1 q2) rfl ?_
      refine r_if_eq 145 dX6_tell_102 (by decide) (fun q5 => ?_) (fun q5 => ?_)
      · refine r_iincL (v := l3 + 1) [some (.ref l0), some (.int l1), some (.int l2), some (.int (l3 + 1)), some (.int l4)] dX6_tell_145 rfl (by decide) rfl rfl ?_
        refine r_goto (tgt := 66) dX6_tell_148 (by decide) ?_
        exact RR.sub (k12 q1 q2 q5) (And.intro rfl (And.intro rfl (And.intro rfl (And.intro rfl (trivial)))))
      · refine r_iload dX6_tell_105 rfl ?_
        refine r_iload_n dX6_tell_107 rfl ?_
        refine r_icmp_eq 126 dX6_tell_108 (by decide) (fun q6 => ?_) (fun q6 => ?_)
        · refine r_aload_n dX6_tell_126 rfl ?_
          refine r_getR (c := 6) (k := 18) dX6_tell_127 rfl rfl (by decide) fl_RX6_43 (c1) rfl (c3) ?_
          refine r_bipush (v := 50) dX6_tell_130 (by decide) ?_
          refine r_iload_n dX6_tell_132 rfl ?_
          refine r_imul dX6_tell_133 ?_
          refine r_iload dX6_tell_134 rfl ?_
          refine r_iadd dX6_tell_136 ?_
          refine r_iconst (v := 1) dX6_tell_137 (by decide) ?_
          refine r_bastoreJ (Int32.toNatClampNeg ((50 * l3) + l4)) dX6_tell_138 (c4) (c13 q1 q2 q5 q6) rfl (by decide) ?_
          refine r_iincL (v := l4 + 1) [some (.ref l0), some (.int l1), some (.int l2), some (.int l3), some (.int (l4 + 1))] dX6_tell_139 rfl (by decide) rfl rfl ?_
          refine r_goto (tgt := 77) dX6_tell_142 (by decide) ?_
          exact k14 q1 q2 q5 q6
        · refine r_aload_n dX6_tell_111 rfl ?_
          refine r_getR (c := 6) (k := 18) dX6_tell_112 rfl rfl (by decide) fl_RX6_43 (c1) rfl (c3) ?_
          refine r_bipush (v := 50) dX6_tell_115 (by decide) ?_
          refine r_iload_n dX6_tell_117 rfl ?_
          refine r_imul dX6_tell_118 ?_
          refine r_iload dX6_tell_119 rfl ?_
          refine r_iadd dX6_tell_121 ?_
          refine r_baloadJ (Int32.toNatClampNeg ((50 * l2) + l4)) dX6_tell_122 (c4) (c15 q1 q2 q5 q6) rfl ?_
          refine r_if_eq 139 dX6_tell_123 (by decide) (fun q7 => ?_) (fun q7 => ?_)
          · refine r_iincL (v := l4 + 1) [some (.ref l0), some (.int l1), some (.int l2), some (.int l3), some (.int (l4 + 1))] dX6_tell_139 rfl (by decide) rfl rfl ?_
            refine r_goto (tgt := 77) dX6_tell_142 (by decide) ?_
            exact k16 q1 q2 q5 q6 q7
          · refine r_aload_n dX6_tell_126 rfl ?_
            refine r_getR (c := 6) (k := 18) dX6_tell_127 rfl rfl (by decide) fl_RX6_43 (c1) rfl (c3) ?_
            refine r_bipush (v := 50) dX6_tell_130 (by decide) ?_
            refine r_iload_n dX6_tell_132 rfl ?_
            refine r_imul dX6_tell_133 ?_
            refine r_iload dX6_tell_134 rfl ?_
            refine r_iadd dX6_tell_136 ?_
            refine r_iconst (v := 1) dX6_tell_137 (by decide) ?_
            refine r_bastoreJ (Int32.toNatClampNeg ((50 * l3) + l4)) dX6_tell_138 (c4) (c17 q1 q2 q5 q6 q7) rfl (by decide) ?_
            refine r_iincL (v := l4 + 1) [some (.ref l0), some (.int l1), some (.int l2), some (.int l3), some (.int (l4 + 1))] dX6_tell_139 rfl (by decide) rfl rfl ?_
            refine r_goto (tgt := 77) dX6_tell_142 (by decide) ?_
            exact k18 q1 q2 q5 q6 q7

set_option maxRecDepth 20000 in
set_option maxHeartbeats 2000000 in
theorem s_X6_below_0 {G : GG} {nc ns : Nat} {h : PH} {Z : Option Value → PH → Prop} {l0 : Nat} {l1 : Int32} {l2 : Int32}
    (k1 : (l1 < 0) → Z (some (.int 0)) h)
    (c2 : hK h l0 = 16)
    (k3 : (¬ l1 < 0) → ((hI h l0 17) ≤ l1) → Z (some (.int 0)) h)
    (k4 : (¬ l1 < 0) → (¬ (hI h l0 17) ≤ l1) → (l2 < 0) → Z (some (.int 0)) h)
    (k5 : (¬ l1 < 0) → (¬ (hI h l0 17) ≤ l1) → (¬ l2 < 0) → ((hI h l0 17) ≤ l2) → Z (some (.int 0)) h)
    (c6 : (hR h l0 18) ≠ 0)
    (c7 : hK h (hR h l0 18) = 4)
    (c8 : (¬ l1 < 0) → (¬ (hI h l0 17) ≤ l1) → (¬ l2 < 0) → (¬ (hI h l0 17) ≤ l2) → vp_in ((50 * l1) + l2) (hL h (hR h l0 18)))
    (k9 : (¬ l1 < 0) → (¬ (hI h l0 17) ≤ l1) → (¬ l2 < 0) → (¬ (hI h l0 17) ≤ l2) → ((hI h (hR h l0 18) (Int32.toNatClampNeg ((50 * l1) + l2))) = 0) → Z (some (.int 0)) h)
    (k10 : (¬ l1 < 0) → (¬ (hI h l0 17) ≤ l1) → (¬ l2 < 0) → (¬ (hI h l0 17) ≤ l2) → (¬ (hI h (hR h l0 18) (Int32.toNatClampNeg ((50 * l1) + l2))) = 0) → Z (some (.int 1)) h) :
    RR G nc ns m_X6_below 0 [some (.ref l0), some (.int l1), some (.int l2)] [] h Z := by
  refine r_iload_n dX6_below_0 rfl ?_
  refine r_if_lt 42 dX6_below_1 (by decide) (fun q1 => ?_) (fun q1 => ?_)
  · refine r_iconst (v := 0) dX6_below_42 (by decide) ?_
    exact r_zreturn dX6_below_43 rfl (by decide) (k1 q1)
  · refine r_iload_n dX6_below_4 rfl ?_
    refine r_aload_n dX6_below_5 rfl ?_
    refine r_get (c := 6) (k := 17) dX6_below_6 rfl rfl (by decide) fl_RX6_177 (c2) rfl ?_
    refine r_icmp_ge 42 dX6_below_9 (by decide) (fun q2 => ?_) (fun q2 => ?_)
    · refine r_iconst (v := 0) dX6_below_42 (by decide) ?_
      exact r_zreturn dX6_below_43 rfl (by decide) (k3 q1 q2)
    · refine r_iload_n dX6_below_12 rfl ?_
      refine r_if_lt 42 dX6_below_13 (by decide) (fun q3 => ?_) (fun q3 => ?_)
      · refine r_iconst (v := 0) dX6_below_42 (by decide) ?_
        exact r_zreturn dX6_below_43 rfl (by decide) (k4 q1 q2 q3)
      · refine r_iload_n dX6_below_16 rfl ?_
        refine r_aload_n dX6_below_17 rfl ?_
        refine r_get (c := 6) (k := 17) dX6_below_18 rfl rfl (by decide) fl_RX6_177 (c2) rfl ?_
        refine r_icmp_ge 42 dX6_below_21 (by decide) (fun q4 => ?_) (fun q4 => ?_)
        · refine r_iconst (v := 0) dX6_below_42 (by decide) ?_
          exact r_zreturn dX6_below_43 rfl (by decide) (k5 q1 q2 q3 q4)
        · refine r_aload_n dX6_below_24 rfl ?_
          refine r_getR (c := 6) (k := 18) dX6_below_25 rfl rfl (by decide) fl_RX6_43 (c2) rfl (c6) ?_
          refine r_bipush (v := 50) dX6_below_28 (by decide) ?_
          refine r_iload_n dX6_below_30 rfl ?_
          refine r_imul dX6_below_31 ?_
          refine r_iload_n dX6_below_32 rfl ?_
          refine r_iadd dX6_below_33 ?_
          refine r_baloadJ (Int32.toNatClampNeg ((50 * l1) + l2)) dX6_below_34 (c7) (c8 q1 q2 q3 q4) rfl ?_
          refine r_if_eq 42 dX6_below_35 (by decide) (fun q5 => ?_) (fun q5 => ?_)
          · refine r_iconst (v := 0) dX6_below_42 (by decide) ?_
            exact r_zreturn dX6_below_43 rfl (by decide) (k9 q1 q2 q3 q4 q5)
          · refine r_iconst (v := 1) dX6_below_38 (by decide) ?_
            refine r_goto (tgt := 43) dX6_below_39 (by decide) ?_
            exact r_zreturn dX6_below_43 rfl (by decide) (k10 q1 q2 q3 q4 q5)

set_option maxRecDepth 20000 in
set_option maxHeartbeats 2000000 in
theorem s_X6_widthBeside_0 {G : GG} {nc ns : Nat} {h : PH} {Z : Option Value → PH → Prop} {l0 : Nat} {l1 : Int32} {P1 : PH → Prop}
    (c1 : hK h l0 = 16)
    (c2 : (hR h l0 18) ≠ 0)
    (e3 : Ev G m_X6_use [.ref l0, .ref (hR h l0 18), .int (hI h l0 17), .int (hI h l0 17)] h 0 0 (RV P1))
    (k4 : ∀ (h1 : PH), P1 h1 → hN h1 = (hN h) → hS h1 = (hS h) → RR G nc ns m_X6_widthBeside 16 [some (.ref l0), some (.int l1), none, none] [] h1 Z) :
    RR G nc ns m_X6_widthBeside 0 [some (.ref l0), some (.int l1), none, none] [] h Z := by
  refine r_aload_n dX6_widthBeside_0 rfl ?_
  refine r_aload_n dX6_widthBeside_1 rfl ?_
  refine r_getR (c := 6) (k := 18) dX6_widthBeside_2 rfl rfl (by decide) fl_RX6_43 (c1) rfl (c2) ?_
  refine r_aload_n dX6_widthBeside_5 rfl ?_
  refine r_get (c := 6) (k := 17) dX6_widthBeside_6 rfl rfl (by decide) fl_RX6_177 (c1) rfl ?_
  refine r_aload_n dX6_widthBeside_9 rfl ?_
  refine r_get (c := 6) (k := 17) dX6_widthBeside_10 rfl rfl (by decide) fl_RX6_177 (c1) rfl ?_
  refine r_callV (c := 6) (mc := 0) (ms := 0) dX6_widthBeside_13 ck_X6_use iv_X6_use sl_X6_use lk_RX6_132 rfl rfl (c1) (by decide) (by decide) (As := [.ref (hR h l0 18), .int (hI h l0 17), .int (hI h l0 17)]) rfl rfl (Nat.le_of_ble_eq_true rfl) (Or.inl rfl) (Or.inl rfl) (e3) ?_
  rintro v1 h1 ⟨rfl, z1⟩ n1 t1
  exact k4 h1 z1 n1 t1

set_option maxRecDepth 20000 in
set_option maxHeartbeats 2000000 in
theorem s_X6_widthBeside_16 {G : GG} {nc ns : Nat} {h : PH} {Z : Option Value → PH → Prop} {l0 : Nat} {l1 : Int32}
    (c1 : hK h l0 = 16)
    (k2 : RR G nc ns m_X6_widthBeside 23 [some (.ref l0), some (.int l1), some (.int (hI h l0 17)), some (.int 0)] [] h Z) :
    RR G nc ns m_X6_widthBeside 16 [some (.ref l0), some (.int l1), none, none] [] h Z := by
  refine r_aload_n dX6_widthBeside_16 rfl ?_
  refine r_get (c := 6) (k := 17) dX6_widthBeside_17 rfl rfl (by decide) fl_RX6_177 (c1) rfl ?_
  refine r_istore_nL [some (.ref l0), some (.int l1), some (.int (hI h l0 17)), none] dX6_widthBeside_20 (by decide) rfl ?_
  refine r_iconst (v := 0) dX6_widthBeside_21 (by decide) ?_
  refine r_istore_nL [some (.ref l0), some (.int l1), some (.int (hI h l0 17)), some (.int 0)] dX6_widthBeside_22 (by decide) rfl ?_
  exact k2

set_option maxRecDepth 20000 in
set_option maxHeartbeats 2000000 in
theorem s_X6_widthBeside_23 {G : GG} {nc ns : Nat} {h : PH} {Z : Option Value → PH → Prop} {l0 : Nat} {l1 : Int32} {l2 : Int32} {l3 : Int32} {P1 : Int32 → PH → Prop} {P2 : Int32 → PH → Prop}
    (c1 : hK h l0 = 16)
    (e2 : ((hI h l0 17) ≤ l3) → Ev G m_X6_growAll [.ref l0] h 0 0 (RI P1))
    (k3 : ((hI h l0 17) ≤ l3) → ∀ (x1 : Int32) (h1 : PH), P1 x1 h1 → hN h1 = (hN h) → hS h1 = (hS h) → RR G nc ns m_X6_widthBeside 96 [some (.ref l0), some (.int l1), some (.int l2), some (.int l3)] [.int x1, .int l2] h1 Z)
    (e4 : (¬ (hI h l0 17) ≤ l3) → (l1 < 0) → Ev G m_X6_growAll [.ref l0] h 0 0 (RI P2))
    (k5 : (¬ (hI h l0 17) ≤ l3) → (l1 < 0) → ∀ (x2 : Int32) (h2 : PH), P2 x2 h2 → hN h2 = (hN h) → hS h2 = (hS h) → RR G nc ns m_X6_widthBeside 96 [some (.ref l0), some (.int l1), some (.int l2), some (.int l3)] [.int x2, .int l2] h2 Z)
    (c6 : (hR h l0 30) ≠ 0)
    (c7 : hK h (hR h l0 30) = 4)
    (c8 : (¬ (hI h l0 17) ≤ l3) → (¬ l1 < 0) → (l3 = l1) → vp_in l3 (hL h (hR h l0 30)))
    (c9 : (hR h l0 31) ≠ 0)
    (c10 : hK h (hR h l0 31) = 4)
    (c11 : (¬ (hI h l0 17) ≤ l3) → (¬ l1 < 0) → (l3 = l1) → vp_in l3 (hL h (hR h l0 31)))
    (k12 : (¬ (hI h l0 17) ≤ l3) → (¬ l1 < 0) → (l3 = l1) → RR G nc ns m_X6_widthBeside 23 [some (.ref l0), some (.int l1), some (.int (l2 + (-1))), some (.int (l3 + 1))] [] (sI (sI h (hR h l0 30) (Int32.toNatClampNeg l3) 1) (hR h l0 31) (Int32.toNatClampNeg l3) 1) Z)
    (c13 : (hR h l0 18) ≠ 0)
    (c14 : hK h (hR h l0 18) = 4)
    (c15 : (¬ (hI h l0 17) ≤ l3) → (¬ l1 < 0) → (¬ l3 = l1) → vp_in ((50 * l3) + l1) (hL h (hR h l0 18)))
    (c16 : (¬ (hI h l0 17) ≤ l3) → (¬ l1 < 0) → (¬ l3 = l1) → (¬ (hI h (hR h l0 18) (Int32.toNatClampNeg ((50 * l3) + l1))) = 0) → vp_in l3 (hL h (hR h l0 30)))
    (c17 : (¬ (hI h l0 17) ≤ l3) → (¬ l1 < 0) → (¬ l3 = l1) → (¬ (hI h (hR h l0 18) (Int32.toNatClampNeg ((50 * l3) + l1))) = 0) → vp_in l3 (hL h (hR h l0 31)))
    (k18 : (¬ (hI h l0 17) ≤ l3) → (¬ l1 < 0) → (¬ l3 = l1) → (¬ (hI h (hR h l0 18) (Int32.toNatClampNeg ((50 * l3) + l1))) = 0) → RR G nc ns m_X6_widthBeside 23 [some (.ref l0), some (.int l1), some (.int (l2 + (-1))), some (.int (l3 + 1))] [] (sI (sI h (hR h l0 30) (Int32.toNatClampNeg l3) 1) (hR h l0 31) (Int32.toNatClampNeg l3) 1) Z)
    (c19 : (¬ (hI h l0 17) ≤ l3) → (¬ l1 < 0) → (¬ l3 = l1) → ((hI h (hR h l0 18) (Int32.toNatClampNeg ((50 * l3) + l1))) = 0) → vp_in ((50 * l1) + l3) (hL h (hR h l0 18)))
    (k20 : (¬ (hI h l0 17) ≤ l3) → (¬ l1 < 0) → (¬ l3 = l1) → ((hI h (hR h l0 18) (Int32.toNatClampNeg ((50 * l3) + l1))) = 0) → ((hI h (hR h l0 18) (Int32.toNatClampNeg ((50 * l1) + l3))) = 0) → RR G nc ns m_X6_widthBeside 23 [some (.ref l0), some (.int l1), some (.int l2), some (.int (l3 + 1))] [] h Z)
    (c21 : (¬ (hI h l0 17) ≤ l3) → (¬ l1 < 0) → (¬ l3 = l1) → ((hI h (hR h l0 18) (Int32.toNatClampNeg ((50 * l3) + l1))) = 0) → (¬ (hI h (hR h l0 18) (Int32.toNatClampNeg ((50 * l1) + l3))) = 0) → vp_in l3 (hL h (hR h l0 30)))
    (c22 : (¬ (hI h l0 17) ≤ l3) → (¬ l1 < 0) → (¬ l3 = l1) → ((hI h (hR h l0 18) (Int32.toNatClampNeg ((50 * l3) + l1))) = 0) → (¬ (hI h (hR h l0 18) (Int32.toNatClampNeg ((50 * l1) + l3))) = 0) → vp_in l3 (hL h (hR h l0 31)))
    (k23 : (¬ (hI h l0 17) ≤ l3) → (¬ l1 < 0) → (¬ l3 = l1) → ((hI h (hR h l0 18) (Int32.toNatClampNeg ((50 * l3) + l1))) = 0) → (¬ (hI h (hR h l0 18) (Int32.toNatClampNeg ((50 * l1) + l3))) = 0) → RR G nc ns m_X6_widthBeside 23 [some (.ref l0), some (.int l1), some (.int (l2 + (-1))), some (.int (l3 + 1))] [] (sI (sI h (hR h l0 30) (Int32.toNatClampNeg l3) 1) (hR h l0 31) (Int32.toNatClampNeg l3) 1) Z) :
    RR G nc ns m_X6_widthBeside 23 [some (.ref l0), some (.int l1), some (.int l2), some (.int l3)] [] h Z := by
  refine r_iload_n dX6_widthBeside_23 rfl ?_
  refine r_aload_n dX6_widthBeside_24 rfl ?_
  refine r_get (c := 6) (k := 17) dX6_widthBeside_25 rfl rfl (by decide) fl_RX6_177 (c1) rfl ?_
  refine r_icmp_ge 91 dX6_widthBeside_28 (by decide) (fun q1 => ?_) (fun q1 => ?_)
  · refine r_iload_n dX6_widthBeside_91 rfl ?_
    refine r_aload_n dX6_widthBeside_92 rfl ?_
    refine r_callV (c := 6) (mc := 0) (ms := 0) dX6_widthBeside_93 ck_X6_growAll iv_X6_growAll sl_X6_growAll lk_RX6_136 rfl rfl (c1) (by decide) (by decide) (As := []) rfl rfl (Nat.le_of_ble_eq_true rfl) (Or.inl rfl) (Or.inl rfl) (e2 q1) ?_
    rintro v1 h1 ⟨x1, rfl, z1⟩ n1 t1
    exact k3 q1 x1 h1 z1 n1 t1
  · refine r_iload_n dX6_widthBeside_31 rfl ?_
    refine r_if_lt 91 dX6_widthBeside_32 (by decide) (fun q2 => ?_) (fun q2 => ?_)
    · refine r_iload_n dX6_widthBeside_91 rfl ?_
      refine r_aload_n dX6_widthBeside_92 rfl ?_
      refine r_callV (c := 6) (mc := 0) (ms := 0) dX6_widthBeside_93 ck_X6_growAll iv_X6_growAll sl_X6_growAll lk_RX6_136 rfl rfl (c1) (by decide) (by decide) (As := []) rfl rfl (Nat.le_of_ble_eq_true rfl) (Or.inl rfl) (Or.inl rfl) (e4 q1 q2) ?_
      rintro v2 h2 ⟨x2, rfl, z2⟩ n2 t2
      exact k5 q1 q2 x2 h2 z2 n2 t2
    · refine r_iload_n dX6_widthBeside_35 rfl ?_
      refine r_iload_n dX6_widthBeside_36 rfl ?_
      refine r_icmp_eq 68 dX6_widthBeside_37 (by decide) (fun q3 => ?_) (fun q3 => ?_)
      · refine r_aload_n dX6_widthBeside_68 rfl ?_
        refine r_getR (c := 6) (k := 30) dX6_widthBeside_69 rfl rfl (by decide) fl_RX6_67 (c1) rfl (c6) ?_
        refine r_iload_n dX6_widthBeside_72 rfl ?_
        refine r_iconst (v := 1) dX6_widthBeside_73 (by decide) ?_
        refine r_bastoreJ (Int32.toNatClampNeg l3) dX6_widthBeside_74 (c7) (c8 q1 q2 q3) rfl (by decide) ?_
        refine r_aload_n dX6_widthBeside_75 rfl ?_
        refine r_getR (c := 6) (k := 31) dX6_widthBeside_76 rfl rfl (by decide) fl_RX6_70 (c1) rfl (c9) ?_
        refine r_iload_n dX6_widthBeside_79 rfl ?_
        refine r_iconst (v := 1) dX6_widthBeside_80 (by decide) ?_
        refine r_bastoreJ (Int32.toNatClampNeg l3) dX6_widthBeside_81 (c10) (c11 q1 q2 q3) rfl (by decide) ?_
        refine r_iincL (v := l2 + (-1)) [some (.ref l0), some (.int l1), some (.int (l2 + (-1))), some (.int l3)] dX6_widthBeside_82 rfl (by decide) rfl rfl ?_
        refine r_iincL (v := l3 + 1) [some (.ref l0), some (.int l1), some (.int (l2 + (-1))), some (.int (l3 + 1))] dX6_widthBeside_85 rfl (by decide) rfl rfl ?_
        refine r_goto (tgt := 23) dX6_widthBeside_88 (by decide) ?_
        exact k12 q1 q2 q3
      · refine r_aload_n dX6_widthBeside_40 rfl ?_
        refine r_getR (c := 6) (k := 18) dX6_widthBeside_41 rfl rfl (by decide) fl_RX6_43 (c1) rfl (c13) ?_
        refine r_bipush (v := 50) dX6_widthBeside_44 (by decide) ?_
        refine r_iload_n dX6_widthBeside_46 rfl ?_
        refine r_imul dX6_widthBeside_47 ?_
        refine r_iload_n dX6_widthBeside_48 rfl ?_
        refine r_iadd dX6_widthBeside_49 ?_
        refine r_baloadJ (Int32.toNatClampNeg ((50 * l3) + l1)) dX6_widthBeside_50 (c14) (c15 q1 q2 q3) rfl ?_
        refine r_if_ne 68 dX6_widthBeside_51 (by decide) (fun q4 => ?_) (fun q4 => ?_)
        · refine r_aload_n dX6_widthBeside_68 rfl ?_
          refine r_getR (c := 6) (k := 30) dX6_widthBeside_69 rfl rfl (by decide) fl_RX6_67 (c1) rfl (c6) ?_
          refine r_iload_n dX6_widthBeside_72 rfl ?_
          refine r_iconst (v := 1) dX6_widthBeside_73 (by decide) ?_
          refine r_bastoreJ (Int32.toNatClampNeg l3) dX6_widthBeside_74 (c7) (c16 q1 q2 q3 q4) rfl (by decide) ?_
          refine r_aload_n dX6_widthBeside_75 rfl ?_
          refine r_getR (c := 6) (k := 31) dX6_widthBeside_76 rfl rfl (by decide) fl_RX6_70 (c1) rfl (c9) ?_
          refine r_iload_n dX6_widthBeside_79 rfl ?_
          refine r_iconst (v := 1) dX6_widthBeside_80 (by decide) ?_
          refine r_bastoreJ (Int32.toNatClampNeg l3) dX6_widthBeside_81 (c10) (c17 q1 q2 q3 q4) rfl (by decide) ?_
          refine r_iincL (v := l2 + (-1)) [some (.ref l0), some (.int l1), some (.int (l2 + (-1))), some (.int l3)] dX6_widthBeside_82 rfl (by decide) rfl rfl ?_
          refine r_iincL (v := l3 + 1) [some (.ref l0), some (.int l1), some (.int (l2 + (-1))), some (.int (l3 + 1))] dX6_widthBeside_85 rfl (by decide) rfl rfl ?_
          refine r_goto (tgt := 23) dX6_widthBeside_88 (by decide) ?_
          exact k18 q1 q2 q3 q4
        · refine r_aload_n dX6_widthBeside_54 rfl ?_
          refine r_getR (c := 6) (k := 18) dX6_widthBeside_55 rfl rfl (by decide) fl_RX6_43 (c1) rfl (c13) ?_
          refine r_bipush (v := 50) dX6_widthBeside_58 (by decide) ?_
          refine r_iload_n dX6_widthBeside_60 rfl ?_
          refine r_imul dX6_widthBeside_61 ?_
          refine r_iload_n dX6_widthBeside_62 rfl ?_
          refine r_iadd dX6_widthBeside_63 ?_
          refine r_baloadJ (Int32.toNatClampNeg ((50 * l1) + l3)) dX6_widthBeside_64 (c14) (c19 q1 q2 q3 q4) rfl ?_
          refine r_if_eq 85 dX6_widthBeside_65 (by decide) (fun q5 => ?_) (fun q5 => ?_)
          · refine r_iincL (v := l3 + 1) [some (.ref l0), some (.int l1), some (.int l2), some (.int (l3 + 1))] dX6_widthBeside_85 rfl (by decide) rfl rfl ?_
            refine r_goto (tgt := 23) dX6_widthBeside_88 (by decide) ?_
            exact k20 q1 q2 q3 q4 q5
          · refine r_aload_n dX6_widthBeside_68 rfl ?_
            refine r_getR (c := 6) (k := 30) dX6_widthBeside_69 rfl rfl (by decide) fl_RX6_67 (c1) rfl (c6) ?_
            refine r_iload_n dX6_widthBeside_72 rfl ?_
            refine r_iconst (v := 1) dX6_widthBeside_73 (by decide) ?_
            refine r_bastoreJ (Int32.toNatClampNeg l3) dX6_widthBeside_74 (c7) (c21 q1 q2 q3 q4 q5) rfl (by decide) ?_
            refine r_aload_n dX6_widthBeside_75 rfl ?_
            refine r_getR (c := 6) (k := 31) dX6_widthBeside_76 rfl rfl (by decide) fl_RX6_70 (c1) rfl (c9) ?_
            refine r_iload_n dX6_widthBeside_79 rfl ?_
            refine r_iconst (v := 1) dX6_widthBeside_80 (by decide) ?_
            refine r_bastoreJ (Int32.toNatClampNeg l3) dX6_widthBeside_81 (c10) (c22 q1 q2 q3 q4 q5) rfl (by decide) ?_
            refine r_iincL (v := l2 + (-1)) [some (.ref l0), some (.int l1), some (.int (l2 + (-1))), some (.int l3)] dX6_widthBeside_82 rfl (by decide) rfl rfl ?_
            refine r_iincL (v := l3 + 1) [some (.ref l0), some (.int l1), some (.int (l2 + (-1))), some (.int (l3 + 1))] dX6_widthBeside_85 rfl (by decide) rfl rfl ?_
            refine r_goto (tgt := 23) dX6_widthBeside_88 (by decide) ?_
            exact k23 q1 q2 q3 q4 q5

set_option maxRecDepth 20000 in
set_option maxHeartbeats 2000000 in
theorem s_X6_widthBeside_96 {G : GG} {nc ns : Nat} {h : PH} {Z : Option Value → PH → Prop} {l0 : Nat} {l1 : Int32} {l2 : Int32} {l3 : Int32} {s0 : Int32} {s1 : Int32}
    (k1 : Z (some (.int (s0 - s1))) h) :
    RR G nc ns m_X6_widthBeside 96 [some (.ref l0), some (.int l1), some (.int l2), some (.int l3)] [.int s1, .int s0] h Z := by
  refine r_isub dX6_widthBeside_96 ?_
  exact r_ireturn dX6_widthBeside_97 rfl (k1)

set_option maxRecDepth 20000 in
set_option maxHeartbeats 2000000 in
theorem s_X6_workThings_0 {G : GG} {nc ns : Nat} {h : PH} {Z : Option Value → PH → Prop} {l0 : Nat} {P1 : Int32 → PH → Prop}
    (c1 : hK h l0 = 16)
    (e2 : ((hI h l0 19) = 0) → Ev G m_X6_widthBeside [.ref l0, .int (-1)] (sI h l0 19 1) 0 0 (RI P1))
    (k3 : ((hI h l0 19) = 0) → ∀ (x1 : Int32) (h1 : PH), P1 x1 h1 → hN h1 = (hN h) → hS h1 = (hS h) → RR G nc ns m_X6_workThings 19 [some (.ref l0), none, none, none] [.int x1, .ref l0] h1 Z)
    (k4 : (¬ (hI h l0 19) = 0) → Z none h) :
    RR G nc ns m_X6_workThings 0 [some (.ref l0), none, none, none] [] h Z := by
  refine r_aload_n dX6_workThings_0 rfl ?_
  refine r_get (c := 6) (k := 19) dX6_workThings_1 rfl rfl (by decide) fl_RX6_202 (c1) rfl ?_
  refine r_if_eq 8 dX6_workThings_4 (by decide) (fun q1 => ?_) (fun q1 => ?_)
  · refine r_aload_n dX6_workThings_8 rfl ?_
    refine r_iconst (v := 1) dX6_workThings_9 (by decide) ?_
    refine r_putI (c := 6) (k := 19) dX6_workThings_10 rfl rfl (by decide) fl_RX6_202 (c1) (Or.inl rfl) (Or.inr ⟨rfl, by decide⟩) ?_
    refine r_aload_n dX6_workThings_13 rfl ?_
    refine r_aload_n dX6_workThings_14 rfl ?_
    refine r_iconst (v := (-1)) dX6_workThings_15 (by decide) ?_
    refine r_callV (c := 6) (mc := 0) (ms := 0) dX6_workThings_16 ck_X6_widthBeside iv_X6_widthBeside sl_X6_widthBeside lk_RX6_205 rfl rfl (c1) (by decide) (by decide) (As := [.int (-1)]) rfl rfl (Nat.le_of_ble_eq_true rfl) (Or.inl rfl) (Or.inl rfl) (e2 q1) ?_
    rintro v1 h1 ⟨x1, rfl, z1⟩ n1 t1
    exact k3 q1 x1 h1 z1 n1 t1
  · exact r_return dX6_workThings_7 rfl (k4 q1)

set_option maxRecDepth 20000 in
set_option maxHeartbeats 2000000 in
theorem s_X6_workThings_19 {G : GG} {nc ns : Nat} {h : PH} {Z : Option Value → PH → Prop} {l0 : Nat} {s0 : Nat} {s1 : Int32} {P1 : PH → Prop}
    (c1 : hK h s0 = 16)
    (e2 : Ev G m_X6_improve [.ref l0] (sI h s0 20 s1) 0 0 (RV P1))
    (c3 : hK h l0 = 16)
    (k4 : ∀ (h1 : PH), P1 h1 → hN h1 = (hN h) → hS h1 = (hS h) → RR G nc ns m_X6_workThings 26 [some (.ref l0), none, none, none] [] h1 Z) :
    RR G nc ns m_X6_workThings 19 [some (.ref l0), none, none, none] [.int s1, .ref s0] h Z := by
  refine r_putI (c := 6) (k := 20) dX6_workThings_19 rfl rfl (by decide) fl_RX6_180 (c1) (Or.inl rfl) (Or.inl rfl) ?_
  refine r_aload_n dX6_workThings_22 rfl ?_
  refine r_callV (c := 6) (mc := 0) (ms := 0) dX6_workThings_23 ck_X6_improve iv_X6_improve sl_X6_improve lk_RX6_153 rfl rfl (c3) (by decide) (by decide) (As := []) rfl rfl (Nat.le_of_ble_eq_true rfl) (Or.inl rfl) (Or.inl rfl) (e2) ?_
  rintro v1 h1 ⟨rfl, z1⟩ n1 t1
  exact k4 h1 z1 n1 t1

set_option maxRecDepth 20000 in
set_option maxHeartbeats 2000000 in
theorem s_X6_workThings_26 {G : GG} {nc ns : Nat} {h : PH} {Z : Option Value → PH → Prop} {l0 : Nat}
    (k1 : RR G nc ns m_X6_workThings 28 [some (.ref l0), some (.int 0), none, none] [] h Z) :
    RR G nc ns m_X6_workThings 26 [some (.ref l0), none, none, none] [] h Z := by
  refine r_iconst (v := 0) dX6_workThings_26 (by decide) ?_
  refine r_istore_nL [some (.ref l0), some (.int 0), none, none] dX6_workThings_27 (by decide) rfl ?_
  exact k1

set_option maxRecDepth 20000 in
set_option maxHeartbeats 2000000 in
theorem s_X6_workThings_28 {G : GG} {nc ns : Nat} {h : PH} {Z : Option Value → PH → Prop} {l0 : Nat} {l1 : Int32}
    (c1 : hK h l0 = 16)
    (k2 : ((hI h l0 17) ≤ l1) → RR G nc ns m_X6_workThings 65 [some (.ref l0), some (.int 0), some (.int 0), none] [] h Z)
    (c3 : (hR h l0 21) ≠ 0)
    (c4 : (hR h l0 32) ≠ 0)
    (c5 : hK h (hR h l0 32) = 2)
    (c6 : (¬ (hI h l0 17) ≤ l1) → vp_in l1 (hL h (hR h l0 32)))
    (c7 : hK h (hR h l0 21) = 2)
    (c8 : (¬ (hI h l0 17) ≤ l1) → vp_in l1 (hL h (hR h l0 21)))
    (c9 : (hR h l0 22) ≠ 0)
    (c10 : hK h (hR h l0 22) = 2)
    (c11 : (¬ (hI h l0 17) ≤ l1) → vp_in l1 (hL h (hR h l0 22)))
    (k12 : (¬ (hI h l0 17) ≤ l1) → RR G nc ns m_X6_workThings 28 [some (.ref l0), some (.int (l1 + 1)), none, none] [] (sI (sI h (hR h l0 21) (Int32.toNatClampNeg l1) (hI h (hR h l0 32) (Int32.toNatClampNeg l1))) (hR h l0 22) (Int32.toNatClampNeg l1) (-1)) Z) :
    RR G nc ns m_X6_workThings 28 [some (.ref l0), some (.int l1), none, none] [] h Z := by
  refine r_iload_n dX6_workThings_28 rfl ?_
  refine r_aload_n dX6_workThings_29 rfl ?_
  refine r_get (c := 6) (k := 17) dX6_workThings_30 rfl rfl (by decide) fl_RX6_177 (c1) rfl ?_
  refine r_icmp_ge 61 dX6_workThings_33 (by decide) (fun q1 => ?_) (fun q1 => ?_)
  · refine r_iconst (v := 0) dX6_workThings_61 (by decide) ?_
    refine r_istore_nL [some (.ref l0), some (.int 0), none, none] dX6_workThings_62 (by decide) rfl ?_
    refine r_iconst (v := 0) dX6_workThings_63 (by decide) ?_
    refine r_istore_nL [some (.ref l0), some (.int 0), some (.int 0), none] dX6_workThings_64 (by decide) rfl ?_
    exact k2 q1
  · refine r_aload_n dX6_workThings_36 rfl ?_
    refine r_getR (c := 6) (k := 21) dX6_workThings_37 rfl rfl (by decide) fl_RX6_46 (c1) rfl (c3) ?_
    refine r_iload_n dX6_workThings_40 rfl ?_
    refine r_aload_n dX6_workThings_41 rfl ?_
    refine r_getR (c := 6) (k := 32) dX6_workThings_42 rfl rfl (by decide) fl_RX6_73 (c1) rfl (c4) ?_
    refine r_iload_n dX6_workThings_45 rfl ?_
    refine r_ialoadJ (Int32.toNatClampNeg l1) dX6_workThings_46 (c5) (c6 q1) rfl ?_
    refine r_iastoreJ (Int32.toNatClampNeg l1) dX6_workThings_47 (c7) (c8 q1) rfl ?_
    refine r_aload_n dX6_workThings_48 rfl ?_
    refine r_getR (c := 6) (k := 22) dX6_workThings_49 rfl rfl (by decide) fl_RX6_49 (c1) rfl (c9) ?_
    refine r_iload_n dX6_workThings_52 rfl ?_
    refine r_iconst (v := (-1)) dX6_workThings_53 (by decide) ?_
    refine r_iastoreJ (Int32.toNatClampNeg l1) dX6_workThings_54 (c10) (c11 q1) rfl ?_
    refine r_iincL (v := l1 + 1) [some (.ref l0), some (.int (l1 + 1)), none, none] dX6_workThings_55 rfl (by decide) rfl rfl ?_
    refine r_goto (tgt := 28) dX6_workThings_58 (by decide) ?_
    exact k12 q1

set_option maxRecDepth 20000 in
set_option maxHeartbeats 2000000 in
theorem s_X6_workThings_65 {G : GG} {nc ns : Nat} {h : PH} {Z : Option Value → PH → Prop} {l0 : Nat} {l1 : Int32} {l2 : Int32} {P1 : PH → Prop}
    (c1 : hK h l0 = 16)
    (e2 : ((hI h l0 17) ≤ l2) → Ev G m_X6_levels [.ref l0] h 0 0 (RV P1))
    (k3 : ((hI h l0 17) ≤ l2) → ∀ (h1 : PH), P1 h1 → hN h1 = (hN h) → hS h1 = (hS h) → RR G nc ns m_X6_workThings 118 [some (.ref l0), some (.int l1), some (.int l2), none] [] h1 Z)
    (c4 : (hR h l0 33) ≠ 0)
    (c5 : hK h (hR h l0 33) = 2)
    (c6 : (¬ (hI h l0 17) ≤ l2) → vp_in l2 (hL h (hR h l0 33)))
    (k7 : (¬ (hI h l0 17) ≤ l2) → (0 ≤ (hI h (hR h l0 33) (Int32.toNatClampNeg l2))) → RR G nc ns m_X6_workThings 65 [some (.ref l0), some (.int l1), some (.int (l2 + 1)), none] [] h Z)
    (k8 : (¬ (hI h l0 17) ≤ l2) → (¬ 0 ≤ (hI h (hR h l0 33) (Int32.toNatClampNeg l2))) → RR G nc ns m_X6_workThings 84 [some (.ref l0), some (.int l1), some (.int l2), some (.int l2)] [] h Z) :
    RR G nc ns m_X6_workThings 65 [some (.ref l0), some (.int l1), some (.int l2), none] [] h Z := by
  refine r_iload_n dX6_workThings_65 rfl ?_
  refine r_aload_n dX6_workThings_66 rfl ?_
  refine r_get (c := 6) (k := 17) dX6_workThings_67 rfl rfl (by decide) fl_RX6_177 (c1) rfl ?_
  refine r_icmp_ge 114 dX6_workThings_70 (by decide) (fun q1 => ?_) (fun q1 => ?_)
  · refine r_aload_n dX6_workThings_114 rfl ?_
    refine r_callV (c := 6) (mc := 0) (ms := 0) dX6_workThings_115 ck_X6_levels iv_X6_levels sl_X6_levels lk_RX6_208 rfl rfl (c1) (by decide) (by decide) (As := []) rfl rfl (Nat.le_of_ble_eq_true rfl) (Or.inl rfl) (Or.inl rfl) (e2 q1) ?_
    rintro v1 h1 ⟨rfl, z1⟩ n1 t1
    exact k3 q1 h1 z1 n1 t1
  · refine r_aload_n dX6_workThings_73 rfl ?_
    refine r_getR (c := 6) (k := 33) dX6_workThings_74 rfl rfl (by decide) fl_RX6_76 (c1) rfl (c4) ?_
    refine r_iload_n dX6_workThings_77 rfl ?_
    refine r_ialoadJ (Int32.toNatClampNeg l2) dX6_workThings_78 (c5) (c6 q1) rfl ?_
    refine r_if_ge 108 dX6_workThings_79 (by decide) (fun q2 => ?_) (fun q2 => ?_)
    · refine r_iincL (v := l2 + 1) [some (.ref l0), some (.int l1), some (.int (l2 + 1)), none] dX6_workThings_108 rfl (by decide) rfl rfl ?_
      refine r_goto (tgt := 65) dX6_workThings_111 (by decide) ?_
      exact k7 q1 q2
    · refine r_iload_n dX6_workThings_82 rfl ?_
      refine r_istore_nL [some (.ref l0), some (.int l1), some (.int l2), some (.int l2)] dX6_workThings_83 (by decide) rfl ?_
      exact k8 q1 q2

set_option maxRecDepth 20000 in
set_option maxHeartbeats 2000000 in
theorem s_X6_workThings_84 {G : GG} {nc ns : Nat} {h : PH} {Z : Option Value → PH → Prop} {l0 : Nat} {l1 : Int32} {l2 : Int32} {l3 : Int32}
    (k1 : (l3 < 0) → RR G nc ns m_X6_workThings 65 [some (.ref l0), some (.int (l1 + 1)), some (.int (l2 + 1)), none] [] h Z)
    (c2 : hK h l0 = 16)
    (c3 : (hR h l0 22) ≠ 0)
    (c4 : hK h (hR h l0 22) = 2)
    (c5 : (¬ l3 < 0) → vp_in l3 (hL h (hR h l0 22)))
    (c6 : (hR h l0 21) ≠ 0)
    (c7 : hK h (hR h l0 21) = 2)
    (c8 : (¬ l3 < 0) → vp_in l3 (hL h (hR h l0 21)))
    (k9 : (¬ l3 < 0) → RR G nc ns m_X6_workThings 84 [some (.ref l0), some (.int l1), some (.int l2), some (.int (hI (sI h (hR h l0 22) (Int32.toNatClampNeg l3) l1) (hR h l0 21) (Int32.toNatClampNeg l3)))] [] (sI h (hR h l0 22) (Int32.toNatClampNeg l3) l1) Z) :
    RR G nc ns m_X6_workThings 84 [some (.ref l0), some (.int l1), some (.int l2), some (.int l3)] [] h Z := by
  refine r_iload_n dX6_workThings_84 rfl ?_
  refine r_if_lt 105 dX6_workThings_85 (by decide) (fun q1 => ?_) (fun q1 => ?_)
  · refine r_iincL (v := l1 + 1) [some (.ref l0), some (.int (l1 + 1)), some (.int l2), some (.int l3)] dX6_workThings_105 rfl (by decide) rfl rfl ?_
    refine r_iincL (v := l2 + 1) [some (.ref l0), some (.int (l1 + 1)), some (.int (l2 + 1)), some (.int l3)] dX6_workThings_108 rfl (by decide) rfl rfl ?_
    refine r_goto (tgt := 65) dX6_workThings_111 (by decide) ?_
    exact RR.sub (k1 q1) (And.intro rfl (And.intro rfl (And.intro rfl (trivial))))
  · refine r_aload_n dX6_workThings_88 rfl ?_
    refine r_getR (c := 6) (k := 22) dX6_workThings_89 rfl rfl (by decide) fl_RX6_49 (c2) rfl (c3) ?_
    refine r_iload_n dX6_workThings_92 rfl ?_
    refine r_iload_n dX6_workThings_93 rfl ?_
    refine r_iastoreJ (Int32.toNatClampNeg l3) dX6_workThings_94 (c4) (c5 q1) rfl ?_
    refine r_aload_n dX6_workThings_95 rfl ?_
    refine r_getR (c := 6) (k := 21) dX6_workThings_96 rfl rfl (by decide) fl_RX6_46 (c2) rfl (c6) ?_
    refine r_iload_n dX6_workThings_99 rfl ?_
    refine r_ialoadJ (Int32.toNatClampNeg l3) dX6_workThings_100 (c7) (c8 q1) rfl ?_
    refine r_istore_nL [some (.ref l0), some (.int l1), some (.int l2), some (.int (hI (sI h (hR h l0 22) (Int32.toNatClampNeg l3) l1) (hR h l0 21) (Int32.toNatClampNeg l3)))] dX6_workThings_101 (by decide) rfl ?_
    refine r_goto (tgt := 84) dX6_workThings_102 (by decide) ?_
    exact k9 q1

set_option maxRecDepth 20000 in
set_option maxHeartbeats 2000000 in
theorem s_X6_workThings_118 {G : GG} {nc ns : Nat} {h : PH} {Z : Option Value → PH → Prop} {l0 : Nat} {l1 : Int32} {l2 : Int32}
    (k1 : RR G nc ns m_X6_workThings 120 [some (.ref l0), some (.int l1), some (.int 0), none] [] h Z) :
    RR G nc ns m_X6_workThings 118 [some (.ref l0), some (.int l1), some (.int l2), none] [] h Z := by
  refine r_iconst (v := 0) dX6_workThings_118 (by decide) ?_
  refine r_istore_nL [some (.ref l0), some (.int l1), some (.int 0), none] dX6_workThings_119 (by decide) rfl ?_
  exact k1

set_option maxRecDepth 20000 in
set_option maxHeartbeats 2000000 in
theorem s_X6_workThings_120 {G : GG} {nc ns : Nat} {h : PH} {Z : Option Value → PH → Prop} {l0 : Nat} {l1 : Int32} {l2 : Int32} {P1 : PH → Prop} {P2 : Int32 → PH → Prop}
    (c1 : hK h l0 = 16)
    (e2 : ((hI h l0 17) ≤ l2) → Ev G m_X6_ends [.ref l0] h 0 0 (RV P1))
    (k3 : ((hI h l0 17) ≤ l2) → ∀ (h1 : PH), P1 h1 → hN h1 = (hN h) → hS h1 = (hS h) → RR G nc ns m_X6_workThings 175 [some (.ref l0), some (.int l1), some (.int l2), none] [] h1 Z)
    (c4 : (hR h l0 24) ≠ 0)
    (e5 : (¬ (hI h l0 17) ≤ l2) → Ev G m_X6_widthBeside [.ref l0, .int l2] h 0 0 (RI P2))
    (k6 : (¬ (hI h l0 17) ≤ l2) → ∀ (x2 : Int32) (h2 : PH), P2 x2 h2 → hN h2 = (hN h) → hS h2 = (hS h) → RR G nc ns m_X6_workThings 138 [some (.ref l0), some (.int l1), some (.int l2), none] [.int x2, .int l2, .ref (hR h l0 24)] h2 Z) :
    RR G nc ns m_X6_workThings 120 [some (.ref l0), some (.int l1), some (.int l2), none] [] h Z := by
  refine r_iload_n dX6_workThings_120 rfl ?_
  refine r_aload_n dX6_workThings_121 rfl ?_
  refine r_get (c := 6) (k := 17) dX6_workThings_122 rfl rfl (by decide) fl_RX6_177 (c1) rfl ?_
  refine r_icmp_ge 171 dX6_workThings_125 (by decide) (fun q1 => ?_) (fun q1 => ?_)
  · refine r_aload_n dX6_workThings_171 rfl ?_
    refine r_callV (c := 6) (mc := 0) (ms := 0) dX6_workThings_172 ck_X6_ends iv_X6_ends sl_X6_ends lk_RX6_211 rfl rfl (c1) (by decide) (by decide) (As := []) rfl rfl (Nat.le_of_ble_eq_true rfl) (Or.inl rfl) (Or.inl rfl) (e2 q1) ?_
    rintro v1 h1 ⟨rfl, z1⟩ n1 t1
    exact k3 q1 h1 z1 n1 t1
  · refine r_aload_n dX6_workThings_128 rfl ?_
    refine r_getR (c := 6) (k := 24) dX6_workThings_129 rfl rfl (by decide) fl_RX6_55 (c1) rfl (c4) ?_
    refine r_iload_n dX6_workThings_132 rfl ?_
    refine r_aload_n dX6_workThings_133 rfl ?_
    refine r_iload_n dX6_workThings_134 rfl ?_
    refine r_callV (c := 6) (mc := 0) (ms := 0) dX6_workThings_135 ck_X6_widthBeside iv_X6_widthBeside sl_X6_widthBeside lk_RX6_205 rfl rfl (c1) (by decide) (by decide) (As := [.int l2]) rfl rfl (Nat.le_of_ble_eq_true rfl) (Or.inl rfl) (Or.inl rfl) (e5 q1) ?_
    rintro v2 h2 ⟨x2, rfl, z2⟩ n2 t2
    exact k6 q1 x2 h2 z2 n2 t2

set_option maxRecDepth 20000 in
set_option maxHeartbeats 2000000 in
theorem s_X6_workThings_138 {G : GG} {nc ns : Nat} {h : PH} {Z : Option Value → PH → Prop} {l0 : Nat} {l1 : Int32} {l2 : Int32} {s0 : Nat} {s1 : Int32} {s2 : Int32}
    (c1 : hK h l0 = 16)
    (c2 : hK h s0 = 4)
    (c3 : (¬ s2 = ((hI h l0 20) - 1)) → vp_in s1 (hL h s0))
    (c4 : (hR h l0 25) ≠ 0)
    (c5 : (hR h l0 24) ≠ 0)
    (c6 : hK h (hR h l0 24) = 4)
    (c7 : (¬ s2 = ((hI h l0 20) - 1)) → vp_in l2 (hL h (hR h l0 24)))
    (c8 : hK h (hR h l0 25) = 4)
    (c9 : (¬ s2 = ((hI h l0 20) - 1)) → vp_in l2 (hL h (hR h l0 25)))
    (c10 : (¬ s2 = ((hI h l0 20) - 1)) → ((hI (sI h s0 (Int32.toNatClampNeg s1) 0) (hR h l0 24) (Int32.toNatClampNeg l2)) = 0 ∨ (hI (sI h s0 (Int32.toNatClampNeg s1) 0) (hR h l0 24) (Int32.toNatClampNeg l2)) = 1))
    (k11 : (¬ s2 = ((hI h l0 20) - 1)) → RR G nc ns m_X6_workThings 120 [some (.ref l0), some (.int l1), some (.int (l2 + 1)), none] [] (sI (sI h s0 (Int32.toNatClampNeg s1) 0) (hR h l0 25) (Int32.toNatClampNeg l2) (hI (sI h s0 (Int32.toNatClampNeg s1) 0) (hR h l0 24) (Int32.toNatClampNeg l2))) Z)
    (c12 : (s2 = ((hI h l0 20) - 1)) → vp_in s1 (hL h s0))
    (c13 : (s2 = ((hI h l0 20) - 1)) → vp_in l2 (hL h (hR h l0 24)))
    (c14 : (s2 = ((hI h l0 20) - 1)) → vp_in l2 (hL h (hR h l0 25)))
    (c15 : (s2 = ((hI h l0 20) - 1)) → ((hI (sI h s0 (Int32.toNatClampNeg s1) 1) (hR h l0 24) (Int32.toNatClampNeg l2)) = 0 ∨ (hI (sI h s0 (Int32.toNatClampNeg s1) 1) (hR h l0 24) (Int32.toNatClampNeg l2)) = 1))
    (k16 : (s2 = ((hI h l0 20) - 1)) → RR G nc ns m_X6_workThings 120 [some (.ref l0), some (.int l1), some (.int (l2 + 1)), none] [] (sI (sI h s0 (Int32.toNatClampNeg s1) 1) (hR h l0 25) (Int32.toNatClampNeg l2) (hI (sI h s0 (Int32.toNatClampNeg s1) 1) (hR h l0 24) (Int32.toNatClampNeg l2))) Z) :
    RR G nc ns m_X6_workThings 138 [some (.ref l0), some (.int l1), some (.int l2), none] [.int s2, .int s1, .ref s0] h Z := by
  refine r_aload_n dX6_workThings_138 rfl ?_
  refine r_get (c := 6) (k := 20) dX6_workThings_139 rfl rfl (by decide) fl_RX6_180 (c1) rfl ?_
  refine r_iconst (v := 1) dX6_workThings_142 (by decide) ?_
  refine r_isub dX6_workThings_143 ?_
  refine r_icmp_ne 151 dX6_workThings_144 (by decide) (fun q1 => ?_) (fun q1 => ?_)
  · refine r_iconst (v := 0) dX6_workThings_151 (by decide) ?_
    refine r_bastoreJ (Int32.toNatClampNeg s1) dX6_workThings_152 (c2) (c3 q1) rfl (by decide) ?_
    refine r_aload_n dX6_workThings_153 rfl ?_
    refine r_getR (c := 6) (k := 25) dX6_workThings_154 rfl rfl (by decide) fl_RX6_58 (c1) rfl (c4) ?_
    refine r_iload_n dX6_workThings_157 rfl ?_
    refine r_aload_n dX6_workThings_158 rfl ?_
    refine r_getR (c := 6) (k := 24) dX6_workThings_159 rfl rfl (by decide) fl_RX6_55 (c1) rfl (c5) ?_
    refine r_iload_n dX6_workThings_162 rfl ?_
    refine r_baloadJ (Int32.toNatClampNeg l2) dX6_workThings_163 (c6) (c7 q1) rfl ?_
    refine r_bastoreJ (Int32.toNatClampNeg l2) dX6_workThings_164 (c8) (c9 q1) rfl (c10 q1) ?_
    refine r_iincL (v := l2 + 1) [some (.ref l0), some (.int l1), some (.int (l2 + 1)), none] dX6_workThings_165 rfl (by decide) rfl rfl ?_
    refine r_goto (tgt := 120) dX6_workThings_168 (by decide) ?_
    exact k11 q1
  · refine r_iconst (v := 1) dX6_workThings_147 (by decide) ?_
    refine r_goto (tgt := 152) dX6_workThings_148 (by decide) ?_
    refine r_bastoreJ (Int32.toNatClampNeg s1) dX6_workThings_152 (c2) (c12 q1) rfl (by decide) ?_
    refine r_aload_n dX6_workThings_153 rfl ?_
    refine r_getR (c := 6) (k := 25) dX6_workThings_154 rfl rfl (by decide) fl_RX6_58 (c1) rfl (c4) ?_
    refine r_iload_n dX6_workThings_157 rfl ?_
    refine r_aload_n dX6_workThings_158 rfl ?_
    refine r_getR (c := 6) (k := 24) dX6_workThings_159 rfl rfl (by decide) fl_RX6_55 (c1) rfl (c5) ?_
    refine r_iload_n dX6_workThings_162 rfl ?_
    refine r_baloadJ (Int32.toNatClampNeg l2) dX6_workThings_163 (c6) (c13 q1) rfl ?_
    refine r_bastoreJ (Int32.toNatClampNeg l2) dX6_workThings_164 (c8) (c14 q1) rfl (c15 q1) ?_
    refine r_iincL (v := l2 + 1) [some (.ref l0), some (.int l1), some (.int (l2 + 1)), none] dX6_workThings_165 rfl (by decide) rfl rfl ?_
    refine r_goto (tgt := 120) dX6_workThings_168 (by decide) ?_
    exact k16 q1

set_option maxRecDepth 20000 in
set_option maxHeartbeats 2000000 in
theorem s_X6_workThings_175 {G : GG} {nc ns : Nat} {h : PH} {Z : Option Value → PH → Prop} {l0 : Nat} {l1 : Int32} {l2 : Int32}
    (k1 : Z none h) :
    RR G nc ns m_X6_workThings 175 [some (.ref l0), some (.int l1), some (.int l2), none] [] h Z := by
  exact r_return dX6_workThings_175 rfl (k1)

set_option maxRecDepth 20000 in
set_option maxHeartbeats 2000000 in
theorem s_X6_levels_0 {G : GG} {nc ns : Nat} {h : PH} {Z : Option Value → PH → Prop} {l0 : Nat}
    (k1 : RR G nc ns m_X6_levels 2 [some (.ref l0), some (.int 0), none, none] [] h Z) :
    RR G nc ns m_X6_levels 0 [some (.ref l0), none, none, none] [] h Z := by
  refine r_iconst (v := 0) dX6_levels_0 (by decide) ?_
  refine r_istore_nL [some (.ref l0), some (.int 0), none, none] dX6_levels_1 (by decide) rfl ?_
  exact k1

set_option maxRecDepth 20000 in
set_option maxHeartbeats 2000000 in
theorem s_X6_levels_2 {G : GG} {nc ns : Nat} {h : PH} {Z : Option Value → PH → Prop} {l0 : Nat} {l1 : Int32}
    (c1 : hK h l0 = 16)
    (k2 : ((hI h l0 17) ≤ l1) → RR G nc ns m_X6_levels 25 [some (.ref l0), some (.int 0), none, none] [] h Z)
    (c3 : (hR h l0 23) ≠ 0)
    (c4 : hK h (hR h l0 23) = 2)
    (c5 : (¬ (hI h l0 17) ≤ l1) → vp_in l1 (hL h (hR h l0 23)))
    (k6 : (¬ (hI h l0 17) ≤ l1) → RR G nc ns m_X6_levels 2 [some (.ref l0), some (.int (l1 + 1)), none, none] [] (sI h (hR h l0 23) (Int32.toNatClampNeg l1) 0) Z) :
    RR G nc ns m_X6_levels 2 [some (.ref l0), some (.int l1), none, none] [] h Z := by
  refine r_iload_n dX6_levels_2 rfl ?_
  refine r_aload_n dX6_levels_3 rfl ?_
  refine r_get (c := 6) (k := 17) dX6_levels_4 rfl rfl (by decide) fl_RX6_177 (c1) rfl ?_
  refine r_icmp_ge 23 dX6_levels_7 (by decide) (fun q1 => ?_) (fun q1 => ?_)
  · refine r_iconst (v := 0) dX6_levels_23 (by decide) ?_
    refine r_istore_nL [some (.ref l0), some (.int 0), none, none] dX6_levels_24 (by decide) rfl ?_
    exact k2 q1
  · refine r_aload_n dX6_levels_10 rfl ?_
    refine r_getR (c := 6) (k := 23) dX6_levels_11 rfl rfl (by decide) fl_RX6_52 (c1) rfl (c3) ?_
    refine r_iload_n dX6_levels_14 rfl ?_
    refine r_iconst (v := 0) dX6_levels_15 (by decide) ?_
    refine r_iastoreJ (Int32.toNatClampNeg l1) dX6_levels_16 (c4) (c5 q1) rfl ?_
    refine r_iincL (v := l1 + 1) [some (.ref l0), some (.int (l1 + 1)), none, none] dX6_levels_17 rfl (by decide) rfl rfl ?_
    refine r_goto (tgt := 2) dX6_levels_20 (by decide) ?_
    exact k6 q1

set_option maxRecDepth 20000 in
set_option maxHeartbeats 2000000 in
theorem s_X6_levels_25 {G : GG} {nc ns : Nat} {h : PH} {Z : Option Value → PH → Prop} {l0 : Nat} {l1 : Int32}
    (c1 : hK h l0 = 16)
    (k2 : ((hI h l0 17) ≤ l1) → Z none h)
    (k3 : (¬ (hI h l0 17) ≤ l1) → RR G nc ns m_X6_levels 35 [some (.ref l0), some (.int l1), some (.int 0), none] [] h Z) :
    RR G nc ns m_X6_levels 25 [some (.ref l0), some (.int l1), none, none] [] h Z := by
  refine r_iload_n dX6_levels_25 rfl ?_
  refine r_aload_n dX6_levels_26 rfl ?_
  refine r_get (c := 6) (k := 17) dX6_levels_27 rfl rfl (by decide) fl_RX6_177 (c1) rfl ?_
  refine r_icmp_ge 114 dX6_levels_30 (by decide) (fun q1 => ?_) (fun q1 => ?_)
  · exact r_return dX6_levels_114 rfl (k2 q1)
  · refine r_iconst (v := 0) dX6_levels_33 (by decide) ?_
    refine r_istore_nL [some (.ref l0), some (.int l1), some (.int 0), none] dX6_levels_34 (by decide) rfl ?_
    exact k3 q1

set_option maxRecDepth 20000 in
set_option maxHeartbeats 2000000 in
theorem s_X6_levels_35 {G : GG} {nc ns : Nat} {h : PH} {Z : Option Value → PH → Prop} {l0 : Nat} {l1 : Int32} {l2 : Int32}
    (c1 : hK h l0 = 16)
    (k2 : ((hI h l0 17) ≤ l2) → RR G nc ns m_X6_levels 25 [some (.ref l0), some (.int (l1 + 1)), none, none] [] h Z)
    (k3 : (¬ (hI h l0 17) ≤ l2) → RR G nc ns m_X6_levels 45 [some (.ref l0), some (.int l1), some (.int l2), some (.int 0)] [] h Z) :
    RR G nc ns m_X6_levels 35 [some (.ref l0), some (.int l1), some (.int l2), none] [] h Z := by
  refine r_iload_n dX6_levels_35 rfl ?_
  refine r_aload_n dX6_levels_36 rfl ?_
  refine r_get (c := 6) (k := 17) dX6_levels_37 rfl rfl (by decide) fl_RX6_177 (c1) rfl ?_
  refine r_icmp_ge 108 dX6_levels_40 (by decide) (fun q1 => ?_) (fun q1 => ?_)
  · refine r_iincL (v := l1 + 1) [some (.ref l0), some (.int (l1 + 1)), some (.int l2), none] dX6_levels_108 rfl (by decide) rfl rfl ?_
    refine r_goto (tgt := 25) dX6_levels_111 (by decide) ?_
    exact RR.sub (k2 q1) (And.intro rfl (And.intro rfl (trivial)))
  · refine r_iconst (v := 0) dX6_levels_43 (by decide) ?_
    refine r_istore_nL [some (.ref l0), some (.int l1), some (.int l2), some (.int 0)] dX6_levels_44 (by decide) rfl ?_
    exact k3 q1

set_option maxRecDepth 20000 in
set_option maxHeartbeats 2000000 in
theorem s_X6_levels_45 {G : GG} {nc ns : Nat} {h : PH} {Z : Option Value → PH → Prop} {l0 : Nat} {l1 : Int32} {l2 : Int32} {l3 : Int32}
    (c1 : hK h l0 = 16)
    (k2 : ((hI h l0 17) ≤ l3) → RR G nc ns m_X6_levels 35 [some (.ref l0), some (.int l1), some (.int (l2 + 1)), none] [] h Z)
    (c3 : (hR h l0 18) ≠ 0)
    (c4 : hK h (hR h l0 18) = 4)
    (c5 : (¬ (hI h l0 17) ≤ l3) → vp_in ((50 * l2) + l3) (hL h (hR h l0 18)))
    (k6 : (¬ (hI h l0 17) ≤ l3) → ((hI h (hR h l0 18) (Int32.toNatClampNeg ((50 * l2) + l3))) = 0) → RR G nc ns m_X6_levels 45 [some (.ref l0), some (.int l1), some (.int l2), some (.int (l3 + 1))] [] h Z)
    (c7 : (hR h l0 23) ≠ 0)
    (c8 : hK h (hR h l0 23) = 2)
    (c9 : (¬ (hI h l0 17) ≤ l3) → (¬ (hI h (hR h l0 18) (Int32.toNatClampNeg ((50 * l2) + l3))) = 0) → vp_in l3 (hL h (hR h l0 23)))
    (c10 : (¬ (hI h l0 17) ≤ l3) → (¬ (hI h (hR h l0 18) (Int32.toNatClampNeg ((50 * l2) + l3))) = 0) → vp_in l2 (hL h (hR h l0 23)))
    (k11 : (¬ (hI h l0 17) ≤ l3) → (¬ (hI h (hR h l0 18) (Int32.toNatClampNeg ((50 * l2) + l3))) = 0) → ((hI h (hR h l0 23) (Int32.toNatClampNeg l2)) < (hI h (hR h l0 23) (Int32.toNatClampNeg l3))) → RR G nc ns m_X6_levels 45 [some (.ref l0), some (.int l1), some (.int l2), some (.int (l3 + 1))] [] h Z)
    (k12 : (¬ (hI h l0 17) ≤ l3) → (¬ (hI h (hR h l0 18) (Int32.toNatClampNeg ((50 * l2) + l3))) = 0) → (¬ (hI h (hR h l0 23) (Int32.toNatClampNeg l2)) < (hI h (hR h l0 23) (Int32.toNatClampNeg l3))) → RR G nc ns m_X6_levels 45 [some (.ref l0), some (.int l1), some (.int l2), some (.int (l3 + 1))] [] (sI h (hR h l0 23) (Int32.toNatClampNeg l3) ((hI h (hR h l0 23) (Int32.toNatClampNeg l2)) + 1)) Z) :
    RR G nc ns m_X6_levels 45 [some (.ref l0), some (.int l1), some (.int l2), some (.int l3)] [] h Z := by
  refine r_iload_n dX6_levels_45 rfl ?_
  refine r_aload_n dX6_levels_46 rfl ?_
  refine r_get (c := 6) (k := 17) dX6_levels_47 rfl rfl (by decide) fl_RX6_177 (c1) rfl ?_
  refine r_icmp_ge 102 dX6_levels_50 (by decide) (fun q1 => ?_) (fun q1 => ?_)
  · refine r_iincL (v := l2 + 1) [some (.ref l0), some (.int l1), some (.int (l2 + 1)), some (.int l3)] dX6_levels_102 rfl (by decide) rfl rfl ?_
    refine r_goto (tgt := 35) dX6_levels_105 (by decide) ?_
    exact RR.sub (k2 q1) (And.intro rfl (And.intro rfl (And.intro rfl (trivial))))
  · refine r_aload_n dX6_levels_53 rfl ?_
    refine r_getR (c := 6) (k := 18) dX6_levels_54 rfl rfl (by decide) fl_RX6_43 (c1) rfl (c3) ?_
    refine r_bipush (v := 50) dX6_levels_57 (by decide) ?_
    refine r_iload_n dX6_levels_59 rfl ?_
    refine r_imul dX6_levels_60 ?_
    refine r_iload_n dX6_levels_61 rfl ?_
    refine r_iadd dX6_levels_62 ?_
    refine r_baloadJ (Int32.toNatClampNeg ((50 * l2) + l3)) dX6_levels_63 (c4) (c5 q1) rfl ?_
    refine r_if_eq 96 dX6_levels_64 (by decide) (fun q2 => ?_) (fun q2 => ?_)
    · refine r_iincL (v := l3 + 1) [some (.ref l0), some (.int l1), some (.int l2), some (.int (l3 + 1))] dX6_levels_96 rfl (by decide) rfl rfl ?_
      refine r_goto (tgt := 45) dX6_levels_99 (by decide) ?_
      exact k6 q1 q2
    · refine r_aload_n dX6_levels_67 rfl ?_
      refine r_getR (c := 6) (k := 23) dX6_levels_68 rfl rfl (by decide) fl_RX6_52 (c1) rfl (c7) ?_
      refine r_iload_n dX6_levels_71 rfl ?_
      refine r_ialoadJ (Int32.toNatClampNeg l3) dX6_levels_72 (c8) (c9 q1 q2) rfl ?_
      refine r_aload_n dX6_levels_73 rfl ?_
      refine r_getR (c := 6) (k := 23) dX6_levels_74 rfl rfl (by decide) fl_RX6_52 (c1) rfl (c7) ?_
      refine r_iload_n dX6_levels_77 rfl ?_
      refine r_ialoadJ (Int32.toNatClampNeg l2) dX6_levels_78 (c8) (c10 q1 q2) rfl ?_
      refine r_icmp_gt 96 dX6_levels_79 (by decide) (fun q3 => ?_) (fun q3 => ?_)
      · refine r_iincL (v := l3 + 1) [some (.ref l0), some (.int l1), some (.int l2), some (.int (l3 + 1))] dX6_levels_96 rfl (by decide) rfl rfl ?_
        refine r_goto (tgt := 45) dX6_levels_99 (by decide) ?_
        exact k11 q1 q2 q3
      · refine r_aload_n dX6_levels_82 rfl ?_
        refine r_getR (c := 6) (k := 23) dX6_levels_83 rfl rfl (by decide) fl_RX6_52 (c1) rfl (c7) ?_
        refine r_iload_n dX6_levels_86 rfl ?_
        refine r_aload_n dX6_levels_87 rfl ?_
        refine r_getR (c := 6) (k := 23) dX6_levels_88 rfl rfl (by decide) fl_RX6_52 (c1) rfl (c7) ?_
        refine r_iload_n dX6_levels_91 rfl ?_
        refine r_ialoadJ (Int32.toNatClampNeg l2) dX6_levels_92 (c8) (c10 q1 q2) rfl ?_
        refine r_iconst (v := 1) dX6_levels_93 (by decide) ?_
        refine r_iadd dX6_levels_94 ?_
        refine r_iastoreJ (Int32.toNatClampNeg l3) dX6_levels_95 (c8) (c9 q1 q2) rfl ?_
        refine r_iincL (v := l3 + 1) [some (.ref l0), some (.int l1), some (.int l2), some (.int (l3 + 1))] dX6_levels_96 rfl (by decide) rfl rfl ?_
        refine r_goto (tgt := 45) dX6_levels_99 (by decide) ?_
        exact k12 q1 q2 q3

set_option maxRecDepth 20000 in
set_option maxHeartbeats 2000000 in
theorem s_X6_ends_0 {G : GG} {nc ns : Nat} {h : PH} {Z : Option Value → PH → Prop} {l0 : Nat}
    (k1 : RR G nc ns m_X6_ends 2 [some (.ref l0), some (.int 0), none] [] h Z) :
    RR G nc ns m_X6_ends 0 [some (.ref l0), none, none] [] h Z := by
  refine r_iconst (v := 0) dX6_ends_0 (by decide) ?_
  refine r_istore_nL [some (.ref l0), some (.int 0), none] dX6_ends_1 (by decide) rfl ?_
  exact k1

set_option maxRecDepth 20000 in
set_option maxHeartbeats 2000000 in
theorem s_X6_ends_2 {G : GG} {nc ns : Nat} {h : PH} {Z : Option Value → PH → Prop} {l0 : Nat} {l1 : Int32}
    (c1 : hK h l0 = 16)
    (k2 : ((hI h l0 17) ≤ l1) → RR G nc ns m_X6_ends 30 [some (.ref l0), some (.int 0), none] [] h Z)
    (c3 : (hR h l0 26) ≠ 0)
    (c4 : (hR h l0 24) ≠ 0)
    (c5 : hK h (hR h l0 24) = 4)
    (c6 : (¬ (hI h l0 17) ≤ l1) → vp_in l1 (hL h (hR h l0 24)))
    (c7 : hK h (hR h l0 26) = 4)
    (c8 : (¬ (hI h l0 17) ≤ l1) → vp_in l1 (hL h (hR h l0 26)))
    (c9 : (¬ (hI h l0 17) ≤ l1) → ((hI h (hR h l0 24) (Int32.toNatClampNeg l1)) = 0 ∨ (hI h (hR h l0 24) (Int32.toNatClampNeg l1)) = 1))
    (k10 : (¬ (hI h l0 17) ≤ l1) → RR G nc ns m_X6_ends 2 [some (.ref l0), some (.int (l1 + 1)), none] [] (sI h (hR h l0 26) (Int32.toNatClampNeg l1) (hI h (hR h l0 24) (Int32.toNatClampNeg l1))) Z) :
    RR G nc ns m_X6_ends 2 [some (.ref l0), some (.int l1), none] [] h Z := by
  refine r_iload_n dX6_ends_2 rfl ?_
  refine r_aload_n dX6_ends_3 rfl ?_
  refine r_get (c := 6) (k := 17) dX6_ends_4 rfl rfl (by decide) fl_RX6_177 (c1) rfl ?_
  refine r_icmp_ge 28 dX6_ends_7 (by decide) (fun q1 => ?_) (fun q1 => ?_)
  · refine r_iconst (v := 0) dX6_ends_28 (by decide) ?_
    refine r_istore_nL [some (.ref l0), some (.int 0), none] dX6_ends_29 (by decide) rfl ?_
    exact k2 q1
  · refine r_aload_n dX6_ends_10 rfl ?_
    refine r_getR (c := 6) (k := 26) dX6_ends_11 rfl rfl (by decide) fl_RX6_61 (c1) rfl (c3) ?_
    refine r_iload_n dX6_ends_14 rfl ?_
    refine r_aload_n dX6_ends_15 rfl ?_
    refine r_getR (c := 6) (k := 24) dX6_ends_16 rfl rfl (by decide) fl_RX6_55 (c1) rfl (c4) ?_
    refine r_iload_n dX6_ends_19 rfl ?_
    refine r_baloadJ (Int32.toNatClampNeg l1) dX6_ends_20 (c5) (c6 q1) rfl ?_
    refine r_bastoreJ (Int32.toNatClampNeg l1) dX6_ends_21 (c7) (c8 q1) rfl (c9 q1) ?_
    refine r_iincL (v := l1 + 1) [some (.ref l0), some (.int (l1 + 1)), none] dX6_ends_22 rfl (by decide) rfl rfl ?_
    refine r_goto (tgt := 2) dX6_ends_25 (by decide) ?_
    exact k10 q1

set_option maxRecDepth 20000 in
set_option maxHeartbeats 2000000 in
theorem s_X6_ends_30 {G : GG} {nc ns : Nat} {h : PH} {Z : Option Value → PH → Prop} {l0 : Nat} {l1 : Int32}
    (c1 : hK h l0 = 16)
    (k2 : ((hI h l0 17) ≤ l1) → Z none h)
    (k3 : (¬ (hI h l0 17) ≤ l1) → RR G nc ns m_X6_ends 40 [some (.ref l0), some (.int l1), some (.int 0)] [] h Z) :
    RR G nc ns m_X6_ends 30 [some (.ref l0), some (.int l1), none] [] h Z := by
  refine r_iload_n dX6_ends_30 rfl ?_
  refine r_aload_n dX6_ends_31 rfl ?_
  refine r_get (c := 6) (k := 17) dX6_ends_32 rfl rfl (by decide) fl_RX6_177 (c1) rfl ?_
  refine r_icmp_ge 120 dX6_ends_35 (by decide) (fun q1 => ?_) (fun q1 => ?_)
  · exact r_return dX6_ends_120 rfl (k2 q1)
  · refine r_iconst (v := 0) dX6_ends_38 (by decide) ?_
    refine r_istore_nL [some (.ref l0), some (.int l1), some (.int 0)] dX6_ends_39 (by decide) rfl ?_
    exact k3 q1

set_option maxRecDepth 20000 in
set_option maxHeartbeats 2000000 in
theorem s_X6_ends_40 {G : GG} {nc ns : Nat} {h : PH} {Z : Option Value → PH → Prop} {l0 : Nat} {l1 : Int32} {l2 : Int32}
    (c1 : hK h l0 = 16)
    (k2 : ((hI h l0 17) ≤ l2) → RR G nc ns m_X6_ends 30 [some (.ref l0), some (.int (l1 + 1)), none] [] h Z)
    (c3 : (hR h l0 26) ≠ 0)
    (c4 : hK h (hR h l0 26) = 4)
    (c5 : (¬ (hI h l0 17) ≤ l2) → vp_in l2 (hL h (hR h l0 26)))
    (k6 : (¬ (hI h l0 17) ≤ l2) → ((hI h (hR h l0 26) (Int32.toNatClampNeg l2)) = 0) → ((hI h (hR h l0 26) (Int32.toNatClampNeg l2)) = 0) → RR G nc ns m_X6_ends 40 [some (.ref l0), some (.int l1), some (.int (l2 + 1))] [] h Z)
    (c7 : (hR h l0 18) ≠ 0)
    (c8 : hK h (hR h l0 18) = 4)
    (c9 : (¬ (hI h l0 17) ≤ l2) → ((hI h (hR h l0 26) (Int32.toNatClampNeg l2)) = 0) → (¬ (hI h (hR h l0 26) (Int32.toNatClampNeg l2)) = 0) → vp_in ((50 * l1) + l2) (hL h (hR h l0 18)))
    (k10 : (¬ (hI h l0 17) ≤ l2) → ((hI h (hR h l0 26) (Int32.toNatClampNeg l2)) = 0) → (¬ (hI h (hR h l0 26) (Int32.toNatClampNeg l2)) = 0) → ((hI h (hR h l0 18) (Int32.toNatClampNeg ((50 * l1) + l2))) = 0) → RR G nc ns m_X6_ends 40 [some (.ref l0), some (.int l1), some (.int (l2 + 1))] [] h Z)
    (c11 : (hR h l0 25) ≠ 0)
    (c12 : hK h (hR h l0 25) = 4)
    (c13 : (¬ (hI h l0 17) ≤ l2) → ((hI h (hR h l0 26) (Int32.toNatClampNeg l2)) = 0) → (¬ (hI h (hR h l0 26) (Int32.toNatClampNeg l2)) = 0) → (¬ (hI h (hR h l0 18) (Int32.toNatClampNeg ((50 * l1) + l2))) = 0) → vp_in l1 (hL h (hR h l0 25)))
    (k14 : (¬ (hI h l0 17) ≤ l2) → ((hI h (hR h l0 26) (Int32.toNatClampNeg l2)) = 0) → (¬ (hI h (hR h l0 26) (Int32.toNatClampNeg l2)) = 0) → (¬ (hI h (hR h l0 18) (Int32.toNatClampNeg ((50 * l1) + l2))) = 0) → RR G nc ns m_X6_ends 40 [some (.ref l0), some (.int l1), some (.int (l2 + 1))] [] (sI h (hR h l0 25) (Int32.toNatClampNeg l1) 0) Z)
    (c15 : (¬ (hI h l0 17) ≤ l2) → (¬ (hI h (hR h l0 26) (Int32.toNatClampNeg l2)) = 0) → vp_in ((50 * l2) + l1) (hL h (hR h l0 18)))
    (k16 : (¬ (hI h l0 17) ≤ l2) → (¬ (hI h (hR h l0 26) (Int32.toNatClampNeg l2)) = 0) → ((hI h (hR h l0 18) (Int32.toNatClampNeg ((50 * l2) + l1))) = 0) → ((hI h (hR h l0 26) (Int32.toNatClampNeg l2)) = 0) → RR G nc ns m_X6_ends 40 [some (.ref l0), some (.int l1), some (.int (l2 + 1))] [] h Z)
    (c17 : (¬ (hI h l0 17) ≤ l2) → (¬ (hI h (hR h l0 26) (Int32.toNatClampNeg l2)) = 0) → ((hI h (hR h l0 18) (Int32.toNatClampNeg ((50 * l2) + l1))) = 0) → (¬ (hI h (hR h l0 26) (Int32.toNatClampNeg l2)) = 0) → vp_in ((50 * l1) + l2) (hL h (hR h l0 18)))
    (k18 : (¬ (hI h l0 17) ≤ l2) → (¬ (hI h (hR h l0 26) (Int32.toNatClampNeg l2)) = 0) → ((hI h (hR h l0 18) (Int32.toNatClampNeg ((50 * l2) + l1))) = 0) → (¬ (hI h (hR h l0 26) (Int32.toNatClampNeg l2)) = 0) → ((hI h (hR h l0 18) (Int32.toNatClampNeg ((50 * l1) + l2))) = 0) → RR G nc ns m_X6_ends 40 [some (.ref l0), some (.int l1), some (.int (l2 + 1))] [] h Z)
    (c19 : (¬ (hI h l0 17) ≤ l2) → (¬ (hI h (hR h l0 26) (Int32.toNatClampNeg l2)) = 0) → ((hI h (hR h l0 18) (Int32.toNatClampNeg ((50 * l2) + l1))) = 0) → (¬ (hI h (hR h l0 26) (Int32.toNatClampNeg l2)) = 0) → (¬ (hI h (hR h l0 18) (Int32.toNatClampNeg ((50 * l1) + l2))) = 0) → vp_in l1 (hL h (hR h l0 25)))
    (k20 : (¬ (hI h l0 17) ≤ l2) → (¬ (hI h (hR h l0 26) (Int32.toNatClampNeg l2)) = 0) → ((hI h (hR h l0 18) (Int32.toNatClampNeg ((50 * l2) + l1))) = 0) → (¬ (hI h (hR h l0 26) (Int32.toNatClampNeg l2)) = 0) → (¬ (hI h (hR h l0 18) (Int32.toNatClampNeg ((50 * l1) + l2))) = 0) → RR G nc ns m_X6_ends 40 [some (.ref l0), some (.int l1), some (.int (l2 + 1))] [] (sI h (hR h l0 25) (Int32.toNatClampNeg l1) 0) Z)
    (c21 : (hR h l0 24) ≠ 0)
    (c22 : hK h (hR h l0 24) = 4)
    (c23 : (¬ (hI h l0 17) ≤ l2) → (¬ (hI h (hR h l0 26) (Int32.toNatClampNeg l2)) = 0) → (¬ (hI h (hR h l0 18) (Int32.toNatClampNeg ((50 * l2) + l1))) = 0) → vp_in l1 (hL h (hR h l0 24)))
    (k24 : (¬ (hI h l0 17) ≤ l2) → (¬ (hI h (hR h l0 26) (Int32.toNatClampNeg l2)) = 0) → (¬ (hI h (hR h l0 18) (Int32.toNatClampNeg ((50 * l2) + l1))) = 0) → ((hI (sI h (hR h l0 24) (Int32.toNatClampNeg l1) 0) (hR h l0 26) (Int32.toNatClampNeg l2)) = 0) → RR G nc ns m_X6_ends 40 [some (.ref l0), some (.int l1), some (.int (l2 + 1))] [] (sI h (hR h l0 24) (Int32.toNatClampNeg l1) 0) Z)
    (c25 : (¬ (hI h l0 17) ≤ l2) → (¬ (hI h (hR h l0 26) (Int32.toNatClampNeg l2)) = 0) → (¬ (hI h (hR h l0 18) (Int32.toNatClampNeg ((50 * l2) + l1))) = 0) → (¬ (hI (sI h (hR h l0 24) (Int32.toNatClampNeg l1) 0) (hR h l0 26) (Int32.toNatClampNeg l2)) = 0) → vp_in ((50 * l1) + l2) (hL h (hR h l0 18)))
    (k26 : (¬ (hI h l0 17) ≤ l2) → (¬ (hI h (hR h l0 26) (Int32.toNatClampNeg l2)) = 0) → (¬ (hI h (hR h l0 18) (Int32.toNatClampNeg ((50 * l2) + l1))) = 0) → (¬ (hI (sI h (hR h l0 24) (Int32.toNatClampNeg l1) 0) (hR h l0 26) (Int32.toNatClampNeg l2)) = 0) → ((hI (sI h (hR h l0 24) (Int32.toNatClampNeg l1) 0) (hR h l0 18) (Int32.toNatClampNeg ((50 * l1) + l2))) = 0) → RR G nc ns m_X6_ends 40 [some (.ref l0), some (.int l1), some (.int (l2 + 1))] [] (sI h (hR h l0 24) (Int32.toNatClampNeg l1) 0) Z)
    (c27 : (¬ (hI h l0 17) ≤ l2) → (¬ (hI h (hR h l0 26) (Int32.toNatClampNeg l2)) = 0) → (¬ (hI h (hR h l0 18) (Int32.toNatClampNeg ((50 * l2) + l1))) = 0) → (¬ (hI (sI h (hR h l0 24) (Int32.toNatClampNeg l1) 0) (hR h l0 26) (Int32.toNatClampNeg l2)) = 0) → (¬ (hI (sI h (hR h l0 24) (Int32.toNatClampNeg l1) 0) (hR h l0 18) (Int32.toNatClampNeg ((50 * l1) + l2))) = 0) → vp_in l1 (hL h (hR h l0 25)))
    (k28 : (¬ (hI h l0 17) ≤ l2) → (¬ (hI h (hR h l0 26) (Int32.toNatClampNeg l2)) = 0) → (¬ (hI h (hR h l0 18) (Int32.toNatClampNeg ((50 * l2) + l1))) = 0) → (¬ (hI (sI h (hR h l0 24) (Int32.toNatClampNeg l1) 0) (hR h l0 26) (Int32.toNatClampNeg l2)) = 0) → (¬ (hI (sI h (hR h l0 24) (Int32.toNatClampNeg l1) 0) (hR h l0 18) (Int32.toNatClampNeg ((50 * l1) + l2))) = 0) → RR G nc ns m_X6_ends 40 [some (.ref l0), some (.int l1), some (.int (l2 + 1))] [] (sI (sI h (hR h l0 24) (Int32.toNatClampNeg l1) 0) (hR h l0 25) (Int32.toNatClampNeg l1) 0) Z) :
    RR G nc ns m_X6_ends 40 [some (.ref l0), some (.int l1), some (.int l2)] [] h Z := by
  refine r_iload_n dX6_ends_40 rfl ?_
  refine r_aload_n dX6_ends_41 rfl ?_
  refine r_get (c := 6) (k := 17) dX6_ends_42 rfl rfl (by decide) fl_RX6_177 (c1) rfl ?_
  refine r_icmp_ge 114 dX6_ends_45 (by decide) (fun q1 => ?_) (fun q1 => ?_)
  · refine r_iincL (v := l1 + 1) [some (.ref l0), some (.int (l1 + 1)), some (.int l2)] dX6_ends_114 rfl (by decide) rfl rfl ?_
    refine r_goto (tgt := 30) dX6_ends_117 (by decide) ?_
    exact RR.sub (k2 q1) (And.intro rfl (And.intro rfl (trivial)))
  · refine r_aload_n dX6_ends_48 rfl ?_
    refine r_getR (c := 6) (k := 26) dX6_ends_49 rfl rfl (by decide) fl_RX6_61 (c1) rfl (c3) ?_
    refine r_iload_n dX6_ends_52 rfl ?_
    refine r_baloadJ (Int32.toNatClampNeg l2) dX6_ends_53 (c4) (c5 q1) rfl ?_
    refine r_if_eq 78 dX6_ends_54 (by decide) (fun q2 => ?_) (fun q2 => ?_)
    · refine r_aload_n dX6_ends_78 rfl ?_
      refine r_getR (c := 6) (k := 26) dX6_ends_79 rfl rfl (by decide) fl_RX6_61 (c1) rfl (c3) ?_
      refine r_iload_n dX6_ends_82 rfl ?_
      refine r_baloadJ (Int32.toNatClampNeg l2) dX6_ends_83 (c4) (c5 q1) rfl ?_
      refine r_if_eq 108 dX6_ends_84 (by decide) (fun q3 => ?_) (fun q3 => ?_)
      · refine r_iincL (v := l2 + 1) [some (.ref l0), some (.int l1), some (.int (l2 + 1))] dX6_ends_108 rfl (by decide) rfl rfl ?_
        refine r_goto (tgt := 40) dX6_ends_111 (by decide) ?_
        exact k6 q1 q2 q3
      · refine r_aload_n dX6_ends_87 rfl ?_
        refine r_getR (c := 6) (k := 18) dX6_ends_88 rfl rfl (by decide) fl_RX6_43 (c1) rfl (c7) ?_
        refine r_bipush (v := 50) dX6_ends_91 (by decide) ?_
        refine r_iload_n dX6_ends_93 rfl ?_
        refine r_imul dX6_ends_94 ?_
        refine r_iload_n dX6_ends_95 rfl ?_
        refine r_iadd dX6_ends_96 ?_
        refine r_baloadJ (Int32.toNatClampNeg ((50 * l1) + l2)) dX6_ends_97 (c8) (c9 q1 q2 q3) rfl ?_
        refine r_if_eq 108 dX6_ends_98 (by decide) (fun q4 => ?_) (fun q4 => ?_)
        · refine r_iincL (v := l2 + 1) [some (.ref l0), some (.int l1), some (.int (l2 + 1))] dX6_ends_108 rfl (by decide) rfl rfl ?_
          refine r_goto (tgt := 40) dX6_ends_111 (by decide) ?_
          exact k10 q1 q2 q3 q4
        · refine r_aload_n dX6_ends_101 rfl ?_
          refine r_getR (c := 6) (k := 25) dX6_ends_102 rfl rfl (by decide) fl_RX6_58 (c1) rfl (c11) ?_
          refine r_iload_n dX6_ends_105 rfl ?_
          refine r_iconst (v := 0) dX6_ends_106 (by decide) ?_
          refine r_bastoreJ (Int32.toNatClampNeg l1) dX6_ends_107 (c12) (c13 q1 q2 q3 q4) rfl (by decide) ?_
          refine r_iincL (v := l2 + 1) [some (.ref l0), some (.int l1), some (.int (l2 + 1))] dX6_ends_108 rfl (by decide) rfl rfl ?_
          refine r_goto (tgt := 40) dX6_ends_111 (by decide) ?_
          exact k14 q1 q2 q3 q4
    · refine r_aload_n dX6_ends_57 rfl ?_
      refine r_getR (c := 6) (k := 18) dX6_ends_58 rfl rfl (by decide) fl_RX6_43 (c1) rfl (c7) ?_
      refine r_bipush (v := 50) dX6_ends_61 (by decide) ?_
      refine r_iload_n dX6_ends_63 rfl ?_
      refine r_imul dX6_ends_64 ?_
      refine r_iload_n dX6_ends_65 rfl ?_
      refine r_iadd dX6_ends_66 ?_
      refine r_baloadJ (Int32.toNatClampNeg ((50 * l2) + l1)) dX6_ends_67 (c8) (c15 q1 q2) rfl ?_
      refine r_if_eq 78 dX6_ends_68 (by decide) (fun q5 => ?_) (fun q5 => ?_)
      · refine r_aload_n dX6_ends_78 rfl ?_
        refine r_getR (c := 6) (k := 26) dX6_ends_79 rfl rfl (by decide) fl_RX6_61 (c1) rfl (c3) ?_
        refine r_iload_n dX6_ends_82 rfl ?_
        refine r_baloadJ (Int32.toNatClampNeg l2) dX6_ends_83 (c4) (c5 q1) rfl ?_
        refine r_if_eq 108 dX6_ends_84 (by decide) (fun q6 => ?_) (fun q6 => ?_)
        · refine r_iincL (v := l2 + 1) [some (.ref l0), some (.int l1), some (.int (l2 + 1))] dX6_ends_108 rfl (by decide) rfl rfl ?_
          refine r_goto (tgt := 40) dX6_ends_111 (by decide) ?_
          exact k16 q1 q2 q5 q6
        · refine r_aload_n dX6_ends_87 rfl ?_
          refine r_getR (c := 6) (k := 18) dX6_ends_88 rfl rfl (by decide) fl_RX6_43 (c1) rfl (c7) ?_
          refine r_bipush (v := 50) dX6_ends_91 (by decide) ?_
          refine r_iload_n dX6_ends_93 rfl ?_
          refine r_imul dX6_ends_94 ?_
          refine r_iload_n dX6_ends_95 rfl ?_
          refine r_iadd dX6_ends_96 ?_
          refine r_baloadJ (Int32.toNatClampNeg ((50 * l1) + l2)) dX6_ends_97 (c8) (c17 q1 q2 q5 q6) rfl ?_
          refine r_if_eq 108 dX6_ends_98 (by decide) (fun q7 => ?_) (fun q7 => ?_)
          · refine r_iincL (v := l2 + 1) [some (.ref l0), some (.int l1), some (.int (l2 + 1))] dX6_ends_108 rfl (by decide) rfl rfl ?_
            refine r_goto (tgt := 40) dX6_ends_111 (by decide) ?_
            exact k18 q1 q2 q5 q6 q7
          · refine r_aload_n dX6_ends_101 rfl ?_
            refine r_getR (c := 6) (k := 25) dX6_ends_102 rfl rfl (by decide) fl_RX6_58 (c1) rfl (c11) ?_
            refine r_iload_n dX6_ends_105 rfl ?_
            refine r_iconst (v := 0) dX6_ends_106 (by decide) ?_
            refine r_bastoreJ (Int32.toNatClampNeg l1) dX6_ends_107 (c12) (c19 q1 q2 q5 q6 q7) rfl (by decide) ?_
            refine r_iincL (v := l2 + 1) [some (.ref l0), some (.int l1), some (.int (l2 + 1))] dX6_ends_108 rfl (by decide) rfl rfl ?_
            refine r_goto (tgt := 40) dX6_ends_111 (by decide) ?_
            exact k20 q1 q2 q5 q6 q7
      · refine r_aload_n dX6_ends_71 rfl ?_
        refine r_getR (c := 6) (k := 24) dX6_ends_72 rfl rfl (by decide) fl_RX6_55 (c1) rfl (c21) ?_
        refine r_iload_n dX6_ends_75 rfl ?_
        refine r_iconst (v := 0) dX6_ends_76 (by decide) ?_
        refine r_bastoreJ (Int32.toNatClampNeg l1) dX6_ends_77 (c22) (c23 q1 q2 q5) rfl (by decide) ?_
        refine r_aload_n dX6_ends_78 rfl ?_
        refine r_getR (c := 6) (k := 26) dX6_ends_79 rfl rfl (by decide) fl_RX6_61 (c1) rfl (c3) ?_
        refine r_iload_n dX6_ends_82 rfl ?_
        refine r_baloadJ (Int32.toNatClampNeg l2) dX6_ends_83 (c4) (c5 q1) rfl ?_
        refine r_if_eq 108 dX6_ends_84 (by decide) (fun q8 => ?_) (fun q8 => ?_)
        · refine r_iincL (v := l2 + 1) [some (.ref l0), some (.int l1), some (.int (l2 + 1))] dX6_ends_108 rfl (by decide) rfl rfl ?_
          refine r_goto (tgt := 40) dX6_ends_111 (by decide) ?_
          exact k24 q1 q2 q5 q8
        · refine r_aload_n dX6_ends_87 rfl ?_
          refine r_getR (c := 6) (k := 18) dX6_ends_88 rfl rfl (by decide) fl_RX6_43 (c1) rfl (c7) ?_
          refine r_bipush (v := 50) dX6_ends_91 (by decide) ?_
          refine r_iload_n dX6_ends_93 rfl ?_
          refine r_imul dX6_ends_94 ?_
          refine r_iload_n dX6_ends_95 rfl ?_
          refine r_iadd dX6_ends_96 ?_
          refine r_baloadJ (Int32.toNatClampNeg ((50 * l1) + l2)) dX6_ends_97 (c8) (c25 q1 q2 q5 q8) rfl ?_
          refine r_if_eq 108 dX6_ends_98 (by decide) (fun q9 => ?_) (fun q9 => ?_)
          · refine r_iincL (v := l2 + 1) [some (.ref l0), some (.int l1), some (.int (l2 + 1))] dX6_ends_108 rfl (by decide) rfl rfl ?_
            refine r_goto (tgt := 40) dX6_ends_111 (by decide) ?_
            exact k26 q1 q2 q5 q8 q9
          · refine r_aload_n dX6_ends_101 rfl ?_
            refine r_getR (c := 6) (k := 25) dX6_ends_102 rfl rfl (by decide) fl_RX6_58 (c1) rfl (c11) ?_
            refine r_iload_n dX6_ends_105 rfl ?_
            refine r_iconst (v := 0) dX6_ends_106 (by decide) ?_
            refine r_bastoreJ (Int32.toNatClampNeg l1) dX6_ends_107 (c12) (c27 q1 q2 q5 q8 q9) rfl (by decide) ?_
            refine r_iincL (v := l2 + 1) [some (.ref l0), some (.int l1), some (.int (l2 + 1))] dX6_ends_108 rfl (by decide) rfl rfl ?_
            refine r_goto (tgt := 40) dX6_ends_111 (by decide) ?_
            exact k28 q1 q2 q5 q8 q9

set_option maxRecDepth 20000 in
set_option maxHeartbeats 2000000 in
theorem s_X6_about_0 {G : GG} {nc ns : Nat} {h : PH} {Z : Option Value → PH → Prop} {l0 : Nat} {l1 : Int32} {l2 : Int32} {P1 : PH → Prop}
    (k1 : (l1 < 0) → Z (some (.int (-1))) h)
    (c2 : hK h l0 = 16)
    (k3 : (¬ l1 < 0) → ((hI h l0 17) ≤ l1) → Z (some (.int (-1))) h)
    (k4 : (¬ l1 < 0) → (¬ (hI h l0 17) ≤ l1) → (l2 < 0) → Z (some (.int (-1))) h)
    (e5 : (¬ l1 < 0) → (¬ (hI h l0 17) ≤ l1) → (¬ l2 < 0) → (l2 ≤ 4) → Ev G m_X6_workThings [.ref l0] h 0 0 (RV P1))
    (k6 : (¬ l1 < 0) → (¬ (hI h l0 17) ≤ l1) → (¬ l2 < 0) → (l2 ≤ 4) → ∀ (h1 : PH), P1 h1 → hN h1 = (hN h) → hS h1 = (hS h) → RR G nc ns m_X6_about 27 [some (.ref l0), some (.int l1), some (.int l2)] [] h1 Z)
    (k7 : (¬ l1 < 0) → (¬ (hI h l0 17) ≤ l1) → (¬ l2 < 0) → (¬ l2 ≤ 4) → Z (some (.int (-1))) h) :
    RR G nc ns m_X6_about 0 [some (.ref l0), some (.int l1), some (.int l2)] [] h Z := by
  refine r_iload_n dX6_about_0 rfl ?_
  refine r_if_lt 21 dX6_about_1 (by decide) (fun q1 => ?_) (fun q1 => ?_)
  · refine r_iconst (v := (-1)) dX6_about_21 (by decide) ?_
    exact r_ireturn dX6_about_22 rfl (k1 q1)
  · refine r_iload_n dX6_about_4 rfl ?_
    refine r_aload_n dX6_about_5 rfl ?_
    refine r_get (c := 6) (k := 17) dX6_about_6 rfl rfl (by decide) fl_RX6_177 (c2) rfl ?_
    refine r_icmp_ge 21 dX6_about_9 (by decide) (fun q2 => ?_) (fun q2 => ?_)
    · refine r_iconst (v := (-1)) dX6_about_21 (by decide) ?_
      exact r_ireturn dX6_about_22 rfl (k3 q1 q2)
    · refine r_iload_n dX6_about_12 rfl ?_
      refine r_if_lt 21 dX6_about_13 (by decide) (fun q3 => ?_) (fun q3 => ?_)
      · refine r_iconst (v := (-1)) dX6_about_21 (by decide) ?_
        exact r_ireturn dX6_about_22 rfl (k4 q1 q2 q3)
      · refine r_iload_n dX6_about_16 rfl ?_
        refine r_iconst (v := 4) dX6_about_17 (by decide) ?_
        refine r_icmp_le 23 dX6_about_18 (by decide) (fun q4 => ?_) (fun q4 => ?_)
        · refine r_aload_n dX6_about_23 rfl ?_
          refine r_callV (c := 6) (mc := 0) (ms := 0) dX6_about_24 ck_X6_workThings iv_X6_workThings sl_X6_workThings lk_RX6_164 rfl rfl (c2) (by decide) (by decide) (As := []) rfl rfl (Nat.le_of_ble_eq_true rfl) (Or.inl rfl) (Or.inl rfl) (e5 q1 q2 q3 q4) ?_
          rintro v1 h1 ⟨rfl, z1⟩ n1 t1
          exact k6 q1 q2 q3 q4 h1 z1 n1 t1
        · refine r_iconst (v := (-1)) dX6_about_21 (by decide) ?_
          exact r_ireturn dX6_about_22 rfl (k7 q1 q2 q3 q4)

set_option maxRecDepth 20000 in
set_option maxHeartbeats 2000000 in
theorem s_X6_about_27 {G : GG} {nc ns : Nat} {h : PH} {Z : Option Value → PH → Prop} {l0 : Nat} {l1 : Int32} {l2 : Int32}
    (c1 : hK h l0 = 16)
    (c2 : (hR h l0 25) ≠ 0)
    (c3 : hK h (hR h l0 25) = 4)
    (c4 : (l2 < 0 ∨ 3 < l2) → vp_in l1 (hL h (hR h l0 25)))
    (k5 : (l2 < 0 ∨ 3 < l2) → ((hI h (hR h l0 25) (Int32.toNatClampNeg l1)) = 0) → Z (some (.int 0)) h)
    (k6 : (l2 < 0 ∨ 3 < l2) → (¬ (hI h (hR h l0 25) (Int32.toNatClampNeg l1)) = 0) → Z (some (.int 1)) h)
    (c7 : (hR h l0 22) ≠ 0)
    (c8 : hK h (hR h l0 22) = 2)
    (c9 : (l2 = 0) → vp_in l1 (hL h (hR h l0 22)))
    (k10 : (l2 = 0) → Z (some (.int (hI h (hR h l0 22) (Int32.toNatClampNeg l1)))) h)
    (c11 : (hR h l0 21) ≠ 0)
    (c12 : hK h (hR h l0 21) = 2)
    (c13 : (l2 = 1) → vp_in l1 (hL h (hR h l0 21)))
    (k14 : (l2 = 1) → (0 ≤ (hI h (hR h l0 21) (Int32.toNatClampNeg l1))) → Z (some (.int (hI h (hR h l0 21) (Int32.toNatClampNeg l1)))) h)
    (k15 : (l2 = 1) → (¬ 0 ≤ (hI h (hR h l0 21) (Int32.toNatClampNeg l1))) → Z (some (.int (-3))) h)
    (c16 : (hR h l0 23) ≠ 0)
    (c17 : hK h (hR h l0 23) = 2)
    (c18 : (l2 = 2) → vp_in l1 (hL h (hR h l0 23)))
    (k19 : (l2 = 2) → Z (some (.int (hI h (hR h l0 23) (Int32.toNatClampNeg l1)))) h)
    (c20 : (hR h l0 24) ≠ 0)
    (c21 : hK h (hR h l0 24) = 4)
    (c22 : (l2 = 3) → vp_in l1 (hL h (hR h l0 24)))
    (k23 : (l2 = 3) → ((hI h (hR h l0 24) (Int32.toNatClampNeg l1)) = 0) → Z (some (.int 0)) h)
    (k24 : (l2 = 3) → (¬ (hI h (hR h l0 24) (Int32.toNatClampNeg l1)) = 0) → Z (some (.int 1)) h) :
    RR G nc ns m_X6_about 27 [some (.ref l0), some (.int l1), some (.int l2)] [] h Z := by
  refine r_iload_n dX6_about_27 rfl ?_
  by_cases q1 : l2 < 0 ∨ 3 < l2
  · refine r_tableOut (tgt := 110) dX6_about_28 (sw_out (by decide) (by decide) q1) (by decide) ?_
    refine r_aload_n dX6_about_110 rfl ?_
    refine r_getR (c := 6) (k := 25) dX6_about_111 rfl rfl (by decide) fl_RX6_58 (c1) rfl (c2) ?_
    refine r_iload_n dX6_about_114 rfl ?_
    refine r_baloadJ (Int32.toNatClampNeg l1) dX6_about_115 (c3) (c4 q1) rfl ?_
    refine r_if_eq 123 dX6_about_116 (by decide) (fun q2 => ?_) (fun q2 => ?_)
    · refine r_iconst (v := 0) dX6_about_123 (by decide) ?_
      exact r_ireturn dX6_about_124 rfl (k5 q1 q2)
    · refine r_iconst (v := 1) dX6_about_119 (by decide) ?_
      refine r_goto (tgt := 124) dX6_about_120 (by decide) ?_
      exact r_ireturn dX6_about_124 rfl (k6 q1 q2)
  · rcases sw_in_0_3 q1 with q9 | q9 | q9 | q9
    · have q3 : l2 = 0 := q9
      refine r_tableIn (off := 32) (tgt := 60) dX6_about_28 (by rw [q3]; decide) (by rw [q3]; decide) (by rw [q3]; rfl) (by decide) ?_
      refine r_aload_n dX6_about_60 rfl ?_
      refine r_getR (c := 6) (k := 22) dX6_about_61 rfl rfl (by decide) fl_RX6_49 (c1) rfl (c7) ?_
      refine r_iload_n dX6_about_64 rfl ?_
      refine r_ialoadJ (Int32.toNatClampNeg l1) dX6_about_65 (c8) (c9 q3) rfl ?_
      exact r_ireturn dX6_about_66 rfl (k10 q3)
    · have q4 : l2 = 1 := q9
      refine r_tableIn (off := 39) (tgt := 67) dX6_about_28 (by rw [q4]; decide) (by rw [q4]; decide) (by rw [q4]; rfl) (by decide) ?_
      refine r_aload_n dX6_about_67 rfl ?_
      refine r_getR (c := 6) (k := 21) dX6_about_68 rfl rfl (by decide) fl_RX6_46 (c1) rfl (c11) ?_
      refine r_iload_n dX6_about_71 rfl ?_
      refine r_ialoadJ (Int32.toNatClampNeg l1) dX6_about_72 (c12) (c13 q4) rfl ?_
      refine r_if_ge 81 dX6_about_73 (by decide) (fun q5 => ?_) (fun q5 => ?_)
      · refine r_aload_n dX6_about_81 rfl ?_
        refine r_getR (c := 6) (k := 21) dX6_about_82 rfl rfl (by decide) fl_RX6_46 (c1) rfl (c11) ?_
        refine r_iload_n dX6_about_85 rfl ?_
        refine r_ialoadJ (Int32.toNatClampNeg l1) dX6_about_86 (c12) (c13 q4) rfl ?_
        exact r_ireturn dX6_about_87 rfl (k14 q4 q5)
      · refine r_bipush (v := (-3)) dX6_about_76 (by decide) ?_
        refine r_goto (tgt := 87) dX6_about_78 (by decide) ?_
        exact r_ireturn dX6_about_87 rfl (k15 q4 q5)
    · have q6 : l2 = 2 := q9
      refine r_tableIn (off := 60) (tgt := 88) dX6_about_28 (by rw [q6]; decide) (by rw [q6]; decide) (by rw [q6]; rfl) (by decide) ?_
      refine r_aload_n dX6_about_88 rfl ?_
      refine r_getR (c := 6) (k := 23) dX6_about_89 rfl rfl (by decide) fl_RX6_52 (c1) rfl (c16) ?_
      refine r_iload_n dX6_about_92 rfl ?_
      refine r_ialoadJ (Int32.toNatClampNeg l1) dX6_about_93 (c17) (c18 q6) rfl ?_
      exact r_ireturn dX6_about_94 rfl (k19 q6)
    · have q7 : l2 = 3 := q9
      refine r_tableIn (off := 67) (tgt := 95) dX6_about_28 (by rw [q7]; decide) (by rw [q7]; decide) (by rw [q7]; rfl) (by decide) ?_
      refine r_aload_n dX6_about_95 rfl ?_
      refine r_getR (c := 6) (k := 24) dX6_about_96 rfl rfl (by decide) fl_RX6_55 (c1) rfl (c20) ?_
      refine r_iload_n dX6_about_99 rfl ?_
      refine r_baloadJ (Int32.toNatClampNeg l1) dX6_about_100 (c21) (c22 q7) rfl ?_
      refine r_if_eq 108 dX6_about_101 (by decide) (fun q8 => ?_) (fun q8 => ?_)
      · refine r_iconst (v := 0) dX6_about_108 (by decide) ?_
        exact r_ireturn dX6_about_109 rfl (k23 q7 q8)
      · refine r_iconst (v := 1) dX6_about_104 (by decide) ?_
        refine r_goto (tgt := 109) dX6_about_105 (by decide) ?_
        exact r_ireturn dX6_about_109 rfl (k24 q7 q8)

set_option maxRecDepth 20000 in
set_option maxHeartbeats 2000000 in
theorem s_X6_clearGraph_0 {G : GG} {nc ns : Nat} {h : PH} {Z : Option Value → PH → Prop} {l0 : Nat}
    (c1 : hK h l0 = 16)
    (k2 : RR G nc ns m_X6_clearGraph 27 [some (.ref l0), some (.int ((hI h l0 0) + (hI h l0 1))), some (.int 0)] [] (sI (sI (sI h l0 0 0) l0 1 0) l0 3 0) Z) :
    RR G nc ns m_X6_clearGraph 0 [some (.ref l0), none, none] [] h Z := by
  refine r_aload_n dX6_clearGraph_0 rfl ?_
  refine r_get (c := 6) (k := 0) dX6_clearGraph_1 rfl rfl (by decide) fl_RX6_126 (c1) rfl ?_
  refine r_aload_n dX6_clearGraph_4 rfl ?_
  refine r_get (c := 6) (k := 1) dX6_clearGraph_5 rfl rfl (by decide) fl_RX6_129 (c1) rfl ?_
  refine r_iadd dX6_clearGraph_8 ?_
  refine r_istore_nL [some (.ref l0), some (.int ((hI h l0 0) + (hI h l0 1))), none] dX6_clearGraph_9 (by decide) rfl ?_
  refine r_aload_n dX6_clearGraph_10 rfl ?_
  refine r_iconst (v := 0) dX6_clearGraph_11 (by decide) ?_
  refine r_putI (c := 6) (k := 0) dX6_clearGraph_12 rfl rfl (by decide) fl_RX6_126 (c1) (Or.inl rfl) (Or.inl rfl) ?_
  refine r_aload_n dX6_clearGraph_15 rfl ?_
  refine r_iconst (v := 0) dX6_clearGraph_16 (by decide) ?_
  refine r_putI (c := 6) (k := 1) dX6_clearGraph_17 rfl rfl (by decide) fl_RX6_129 (c1) (Or.inl rfl) (Or.inl rfl) ?_
  refine r_aload_n dX6_clearGraph_20 rfl ?_
  refine r_iconst (v := 0) dX6_clearGraph_21 (by decide) ?_
  refine r_putI (c := 6) (k := 3) dX6_clearGraph_22 rfl rfl (by decide) fl_RX6_122 (c1) (Or.inl rfl) (Or.inr ⟨rfl, by decide⟩) ?_
  refine r_iconst (v := 0) dX6_clearGraph_25 (by decide) ?_
  refine r_istore_nL [some (.ref l0), some (.int ((hI h l0 0) + (hI h l0 1))), some (.int 0)] dX6_clearGraph_26 (by decide) rfl ?_
  exact k2

set_option maxRecDepth 20000 in
set_option maxHeartbeats 2000000 in
theorem s_X6_clearGraph_27 {G : GG} {nc ns : Nat} {h : PH} {Z : Option Value → PH → Prop} {l0 : Nat} {l1 : Int32} {l2 : Int32}
    (k1 : (2500 ≤ l2) → Z (some (.int l1)) h)
    (c2 : hK h l0 = 16)
    (c3 : (hR h l0 2) ≠ 0)
    (c4 : hK h (hR h l0 2) = 4)
    (c5 : (¬ 2500 ≤ l2) → vp_in l2 (hL h (hR h l0 2)))
    (k6 : (¬ 2500 ≤ l2) → RR G nc ns m_X6_clearGraph 27 [some (.ref l0), some (.int l1), some (.int (l2 + 1))] [] (sI h (hR h l0 2) (Int32.toNatClampNeg l2) 0) Z) :
    RR G nc ns m_X6_clearGraph 27 [some (.ref l0), some (.int l1), some (.int l2)] [] h Z := by
  refine r_iload_n dX6_clearGraph_27 rfl ?_
  refine r_sipush (v := 2500) dX6_clearGraph_28 (by decide) ?_
  refine r_icmp_ge 47 dX6_clearGraph_31 (by decide) (fun q1 => ?_) (fun q1 => ?_)
  · refine r_iload_n dX6_clearGraph_47 rfl ?_
    exact r_ireturn dX6_clearGraph_48 rfl (k1 q1)
  · refine r_aload_n dX6_clearGraph_34 rfl ?_
    refine r_getR (c := 6) (k := 2) dX6_clearGraph_35 rfl rfl (by decide) fl_RX6_7 (c2) rfl (c3) ?_
    refine r_iload_n dX6_clearGraph_38 rfl ?_
    refine r_iconst (v := 0) dX6_clearGraph_39 (by decide) ?_
    refine r_bastoreJ (Int32.toNatClampNeg l2) dX6_clearGraph_40 (c4) (c5 q1) rfl (by decide) ?_
    refine r_iincL (v := l2 + 1) [some (.ref l0), some (.int l1), some (.int (l2 + 1))] dX6_clearGraph_41 rfl (by decide) rfl rfl ?_
    refine r_goto (tgt := 27) dX6_clearGraph_44 (by decide) ?_
    exact k6 q1

set_option maxRecDepth 20000 in
set_option maxHeartbeats 2000000 in
theorem s_X6_clearThings_0 {G : GG} {nc ns : Nat} {h : PH} {Z : Option Value → PH → Prop} {l0 : Nat}
    (c1 : hK h l0 = 16)
    (k2 : RR G nc ns m_X6_clearThings 17 [some (.ref l0), some (.int (hI h l0 17)), some (.int 0)] [] (sI (sI h l0 17 0) l0 19 0) Z) :
    RR G nc ns m_X6_clearThings 0 [some (.ref l0), none, none] [] h Z := by
  refine r_aload_n dX6_clearThings_0 rfl ?_
  refine r_get (c := 6) (k := 17) dX6_clearThings_1 rfl rfl (by decide) fl_RX6_177 (c1) rfl ?_
  refine r_istore_nL [some (.ref l0), some (.int (hI h l0 17)), none] dX6_clearThings_4 (by decide) rfl ?_
  refine r_aload_n dX6_clearThings_5 rfl ?_
  refine r_iconst (v := 0) dX6_clearThings_6 (by decide) ?_
  refine r_putI (c := 6) (k := 17) dX6_clearThings_7 rfl rfl (by decide) fl_RX6_177 (c1) (Or.inl rfl) (Or.inl rfl) ?_
  refine r_aload_n dX6_clearThings_10 rfl ?_
  refine r_iconst (v := 0) dX6_clearThings_11 (by decide) ?_
  refine r_putI (c := 6) (k := 19) dX6_clearThings_12 rfl rfl (by decide) fl_RX6_202 (c1) (Or.inl rfl) (Or.inr ⟨rfl, by decide⟩) ?_
  refine r_iconst (v := 0) dX6_clearThings_15 (by decide) ?_
  refine r_istore_nL [some (.ref l0), some (.int (hI h l0 17)), some (.int 0)] dX6_clearThings_16 (by decide) rfl ?_
  exact k2

set_option maxRecDepth 20000 in
set_option maxHeartbeats 2000000 in
theorem s_X6_clearThings_17 {G : GG} {nc ns : Nat} {h : PH} {Z : Option Value → PH → Prop} {l0 : Nat} {l1 : Int32} {l2 : Int32}
    (k1 : (2500 ≤ l2) → Z (some (.int l1)) h)
    (c2 : hK h l0 = 16)
    (c3 : (hR h l0 18) ≠ 0)
    (c4 : hK h (hR h l0 18) = 4)
    (c5 : (¬ 2500 ≤ l2) → vp_in l2 (hL h (hR h l0 18)))
    (k6 : (¬ 2500 ≤ l2) → RR G nc ns m_X6_clearThings 17 [some (.ref l0), some (.int l1), some (.int (l2 + 1))] [] (sI h (hR h l0 18) (Int32.toNatClampNeg l2) 0) Z) :
    RR G nc ns m_X6_clearThings 17 [some (.ref l0), some (.int l1), some (.int l2)] [] h Z := by
  refine r_iload_n dX6_clearThings_17 rfl ?_
  refine r_sipush (v := 2500) dX6_clearThings_18 (by decide) ?_
  refine r_icmp_ge 37 dX6_clearThings_21 (by decide) (fun q1 => ?_) (fun q1 => ?_)
  · refine r_iload_n dX6_clearThings_37 rfl ?_
    exact r_ireturn dX6_clearThings_38 rfl (k1 q1)
  · refine r_aload_n dX6_clearThings_24 rfl ?_
    refine r_getR (c := 6) (k := 18) dX6_clearThings_25 rfl rfl (by decide) fl_RX6_43 (c2) rfl (c3) ?_
    refine r_iload_n dX6_clearThings_28 rfl ?_
    refine r_iconst (v := 0) dX6_clearThings_29 (by decide) ?_
    refine r_bastoreJ (Int32.toNatClampNeg l2) dX6_clearThings_30 (c4) (c5 q1) rfl (by decide) ?_
    refine r_iincL (v := l2 + 1) [some (.ref l0), some (.int l1), some (.int (l2 + 1))] dX6_clearThings_31 rfl (by decide) rfl rfl ?_
    refine r_goto (tgt := 17) dX6_clearThings_34 (by decide) ?_
    exact k6 q1
