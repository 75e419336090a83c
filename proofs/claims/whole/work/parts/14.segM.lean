set_option maxRecDepth 20000 in
set_option maxHeartbeats 2000000 in
theorem s_X6_init_0 {G : GG} {nc ns : Nat} {h : PH} {Z : Option Value → PH → Prop} {l0 : Nat}
    (c1 : (hN h) + 1 ≤ nc)
    (c2 : (hS h) + 2500 ≤ ns)
    (c3 : hK (nA h 4 2500) l0 = 16)
    (c4 : (hN h) ≠ 0)
    (k5 : RR G nc ns m_X6_init 13 [some (.ref l0)] [] (sR (nA h 4 2500) l0 2 (hN h)) Z) :
    RR G nc ns m_X6_init 0 [some (.ref l0)] [] h Z := by
  refine r_aload_n dX6_init_0 rfl ?_
  refine r_objInit dX6_init_1 lk_RX6_1 iv_obj cd_obj (by decide) (by decide) (Nat.le_of_ble_eq_true rfl) ?_
  refine r_aload_n dX6_init_4 rfl ?_
  refine r_sipush (v := 2500) dX6_init_5 (by decide) ?_
  refine r_newarray (kd := 4) (N := 2500) dX6_init_8 rfl rfl rfl ac_boolean (by decide) (by decide) (by decide) (c1) (c2) ?_
  refine r_putR (c := 6) (k := 2) dX6_init_10 rfl rfl (by decide) fl_RX6_7 (c3) (Or.inr ⟨rfl, rfl, rfl⟩) rfl (c4) ?_
  exact k5

set_option maxRecDepth 20000 in
set_option maxHeartbeats 2000000 in
theorem s_X6_init_13 {G : GG} {nc ns : Nat} {h : PH} {Z : Option Value → PH → Prop} {l0 : Nat}
    (c1 : (hN h) + 1 ≤ nc)
    (c2 : (hS h) + 50 ≤ ns)
    (c3 : hK (nA h 2 50) l0 = 16)
    (c4 : (hN h) ≠ 0)
    (k5 : RR G nc ns m_X6_init 21 [some (.ref l0)] [] (sR (nA h 2 50) l0 5 (hN h)) Z) :
    RR G nc ns m_X6_init 13 [some (.ref l0)] [] h Z := by
  refine r_aload_n dX6_init_13 rfl ?_
  refine r_bipush (v := 50) dX6_init_14 (by decide) ?_
  refine r_newarray (kd := 2) (N := 50) dX6_init_16 rfl rfl rfl ac_int (by decide) (by decide) (by decide) (c1) (c2) ?_
  refine r_putR (c := 6) (k := 5) dX6_init_18 rfl rfl (by decide) fl_RX6_13 (c3) (Or.inr ⟨rfl, rfl, rfl⟩) rfl (c4) ?_
  exact k5

set_option maxRecDepth 20000 in
set_option maxHeartbeats 2000000 in
theorem s_X6_init_21 {G : GG} {nc ns : Nat} {h : PH} {Z : Option Value → PH → Prop} {l0 : Nat}
    (c1 : (hN h) + 1 ≤ nc)
    (c2 : (hS h) + 50 ≤ ns)
    (c3 : hK (nA h 2 50) l0 = 16)
    (c4 : (hN h) ≠ 0)
    (k5 : RR G nc ns m_X6_init 29 [some (.ref l0)] [] (sR (nA h 2 50) l0 6 (hN h)) Z) :
    RR G nc ns m_X6_init 21 [some (.ref l0)] [] h Z := by
  refine r_aload_n dX6_init_21 rfl ?_
  refine r_bipush (v := 50) dX6_init_22 (by decide) ?_
  refine r_newarray (kd := 2) (N := 50) dX6_init_24 rfl rfl rfl ac_int (by decide) (by decide) (by decide) (c1) (c2) ?_
  refine r_putR (c := 6) (k := 6) dX6_init_26 rfl rfl (by decide) fl_RX6_17 (c3) (Or.inr ⟨rfl, rfl, rfl⟩) rfl (c4) ?_
  exact k5

set_option maxRecDepth 20000 in
set_option maxHeartbeats 2000000 in
theorem s_X6_init_29 {G : GG} {nc ns : Nat} {h : PH} {Z : Option Value → PH → Prop} {l0 : Nat}
    (c1 : (hN h) + 1 ≤ nc)
    (c2 : (hS h) + 50 ≤ ns)
    (c3 : hK (nA h 4 50) l0 = 16)
    (c4 : (hN h) ≠ 0)
    (k5 : RR G nc ns m_X6_init 37 [some (.ref l0)] [] (sR (nA h 4 50) l0 7 (hN h)) Z) :
    RR G nc ns m_X6_init 29 [some (.ref l0)] [] h Z := by
  refine r_aload_n dX6_init_29 rfl ?_
  refine r_bipush (v := 50) dX6_init_30 (by decide) ?_
  refine r_newarray (kd := 4) (N := 50) dX6_init_32 rfl rfl rfl ac_boolean (by decide) (by decide) (by decide) (c1) (c2) ?_
  refine r_putR (c := 6) (k := 7) dX6_init_34 rfl rfl (by decide) fl_RX6_20 (c3) (Or.inr ⟨rfl, rfl, rfl⟩) rfl (c4) ?_
  exact k5

set_option maxRecDepth 20000 in
set_option maxHeartbeats 2000000 in
theorem s_X6_init_37 {G : GG} {nc ns : Nat} {h : PH} {Z : Option Value → PH → Prop} {l0 : Nat}
    (c1 : (hN h) + 1 ≤ nc)
    (c2 : (hS h) + 50 ≤ ns)
    (c3 : hK (nA h 4 50) l0 = 16)
    (c4 : (hN h) ≠ 0)
    (k5 : RR G nc ns m_X6_init 45 [some (.ref l0)] [] (sR (nA h 4 50) l0 8 (hN h)) Z) :
    RR G nc ns m_X6_init 37 [some (.ref l0)] [] h Z := by
  refine r_aload_n dX6_init_37 rfl ?_
  refine r_bipush (v := 50) dX6_init_38 (by decide) ?_
  refine r_newarray (kd := 4) (N := 50) dX6_init_40 rfl rfl rfl ac_boolean (by decide) (by decide) (by decide) (c1) (c2) ?_
  refine r_putR (c := 6) (k := 8) dX6_init_42 rfl rfl (by decide) fl_RX6_23 (c3) (Or.inr ⟨rfl, rfl, rfl⟩) rfl (c4) ?_
  exact k5

set_option maxRecDepth 20000 in
set_option maxHeartbeats 2000000 in
theorem s_X6_init_45 {G : GG} {nc ns : Nat} {h : PH} {Z : Option Value → PH → Prop} {l0 : Nat}
    (c1 : (hN h) + 1 ≤ nc)
    (c2 : (hS h) + 50 ≤ ns)
    (c3 : hK (nA h 2 50) l0 = 16)
    (c4 : (hN h) ≠ 0)
    (k5 : RR G nc ns m_X6_init 53 [some (.ref l0)] [] (sR (nA h 2 50) l0 9 (hN h)) Z) :
    RR G nc ns m_X6_init 45 [some (.ref l0)] [] h Z := by
  refine r_aload_n dX6_init_45 rfl ?_
  refine r_bipush (v := 50) dX6_init_46 (by decide) ?_
  refine r_newarray (kd := 2) (N := 50) dX6_init_48 rfl rfl rfl ac_int (by decide) (by decide) (by decide) (c1) (c2) ?_
  refine r_putR (c := 6) (k := 9) dX6_init_50 rfl rfl (by decide) fl_RX6_26 (c3) (Or.inr ⟨rfl, rfl, rfl⟩) rfl (c4) ?_
  exact k5

set_option maxRecDepth 20000 in
set_option maxHeartbeats 2000000 in
theorem s_X6_init_53 {G : GG} {nc ns : Nat} {h : PH} {Z : Option Value → PH → Prop} {l0 : Nat}
    (c1 : (hN h) + 1 ≤ nc)
    (c2 : (hS h) + 50 ≤ ns)
    (c3 : hK (nA h 2 50) l0 = 16)
    (c4 : (hN h) ≠ 0)
    (k5 : RR G nc ns m_X6_init 61 [some (.ref l0)] [] (sR (nA h 2 50) l0 10 (hN h)) Z) :
    RR G nc ns m_X6_init 53 [some (.ref l0)] [] h Z := by
  refine r_aload_n dX6_init_53 rfl ?_
  refine r_bipush (v := 50) dX6_init_54 (by decide) ?_
  refine r_newarray (kd := 2) (N := 50) dX6_init_56 rfl rfl rfl ac_int (by decide) (by decide) (by decide) (c1) (c2) ?_
  refine r_putR (c := 6) (k := 10) dX6_init_58 rfl rfl (by decide) fl_RX6_29 (c3) (Or.inr ⟨rfl, rfl, rfl⟩) rfl (c4) ?_
  exact k5

set_option maxRecDepth 20000 in
set_option maxHeartbeats 2000000 in
theorem s_X6_init_61 {G : GG} {nc ns : Nat} {h : PH} {Z : Option Value → PH → Prop} {l0 : Nat}
    (c1 : (hN h) + 1 ≤ nc)
    (c2 : (hS h) + 50 ≤ ns)
    (c3 : hK (nA h 2 50) l0 = 16)
    (c4 : (hN h) ≠ 0)
    (k5 : RR G nc ns m_X6_init 69 [some (.ref l0)] [] (sR (nA h 2 50) l0 11 (hN h)) Z) :
    RR G nc ns m_X6_init 61 [some (.ref l0)] [] h Z := by
  refine r_aload_n dX6_init_61 rfl ?_
  refine r_bipush (v := 50) dX6_init_62 (by decide) ?_
  refine r_newarray (kd := 2) (N := 50) dX6_init_64 rfl rfl rfl ac_int (by decide) (by decide) (by decide) (c1) (c2) ?_
  refine r_putR (c := 6) (k := 11) dX6_init_66 rfl rfl (by decide) fl_RX6_32 (c3) (Or.inr ⟨rfl, rfl, rfl⟩) rfl (c4) ?_
  exact k5

set_option maxRecDepth 20000 in
set_option maxHeartbeats 2000000 in
theorem s_X6_init_69 {G : GG} {nc ns : Nat} {h : PH} {Z : Option Value → PH → Prop} {l0 : Nat}
    (c1 : (hN h) + 1 ≤ nc)
    (c2 : (hS h) + 2500 ≤ ns)
    (c3 : hK (nA h 4 2500) l0 = 16)
    (c4 : (hN h) ≠ 0)
    (k5 : RR G nc ns m_X6_init 78 [some (.ref l0)] [] (sR (nA h 4 2500) l0 12 (hN h)) Z) :
    RR G nc ns m_X6_init 69 [some (.ref l0)] [] h Z := by
  refine r_aload_n dX6_init_69 rfl ?_
  refine r_sipush (v := 2500) dX6_init_70 (by decide) ?_
  refine r_newarray (kd := 4) (N := 2500) dX6_init_73 rfl rfl rfl ac_boolean (by decide) (by decide) (by decide) (c1) (c2) ?_
  refine r_putR (c := 6) (k := 12) dX6_init_75 rfl rfl (by decide) fl_RX6_35 (c3) (Or.inr ⟨rfl, rfl, rfl⟩) rfl (c4) ?_
  exact k5

set_option maxRecDepth 20000 in
set_option maxHeartbeats 2000000 in
theorem s_X6_init_78 {G : GG} {nc ns : Nat} {h : PH} {Z : Option Value → PH → Prop} {l0 : Nat}
    (c1 : (hN h) + 1 ≤ nc)
    (c2 : (hS h) + 65536 ≤ ns)
    (c3 : hK (nA h 3 65536) l0 = 16)
    (c4 : (hN h) ≠ 0)
    (k5 : RR G nc ns m_X6_init 86 [some (.ref l0)] [] (sR (nA h 3 65536) l0 16 (hN h)) Z) :
    RR G nc ns m_X6_init 78 [some (.ref l0)] [] h Z := by
  refine r_aload_n dX6_init_78 rfl ?_
  refine r_ldc (v := 65536) dX6_init_79 cn_RX6_38 ?_
  refine r_newarray (kd := 3) (N := 65536) dX6_init_81 rfl rfl rfl ac_long (by decide) (by decide) (by decide) (c1) (c2) ?_
  refine r_putR (c := 6) (k := 16) dX6_init_83 rfl rfl (by decide) fl_RX6_39 (c3) (Or.inr ⟨rfl, rfl, rfl⟩) rfl (c4) ?_
  exact k5

set_option maxRecDepth 20000 in
set_option maxHeartbeats 2000000 in
theorem s_X6_init_86 {G : GG} {nc ns : Nat} {h : PH} {Z : Option Value → PH → Prop} {l0 : Nat}
    (c1 : (hN h) + 1 ≤ nc)
    (c2 : (hS h) + 2500 ≤ ns)
    (c3 : hK (nA h 4 2500) l0 = 16)
    (c4 : (hN h) ≠ 0)
    (k5 : RR G nc ns m_X6_init 95 [some (.ref l0)] [] (sR (nA h 4 2500) l0 18 (hN h)) Z) :
    RR G nc ns m_X6_init 86 [some (.ref l0)] [] h Z := by
  refine r_aload_n dX6_init_86 rfl ?_
  refine r_sipush (v := 2500) dX6_init_87 (by decide) ?_
  refine r_newarray (kd := 4) (N := 2500) dX6_init_90 rfl rfl rfl ac_boolean (by decide) (by decide) (by decide) (c1) (c2) ?_
  refine r_putR (c := 6) (k := 18) dX6_init_92 rfl rfl (by decide) fl_RX6_43 (c3) (Or.inr ⟨rfl, rfl, rfl⟩) rfl (c4) ?_
  exact k5

set_option maxRecDepth 20000 in
set_option maxHeartbeats 2000000 in
theorem s_X6_init_95 {G : GG} {nc ns : Nat} {h : PH} {Z : Option Value → PH → Prop} {l0 : Nat}
    (c1 : (hN h) + 1 ≤ nc)
    (c2 : (hS h) + 40 ≤ ns)
    (c3 : hK (nA h 2 40) l0 = 16)
    (c4 : (hN h) ≠ 0)
    (k5 : RR G nc ns m_X6_init 103 [some (.ref l0)] [] (sR (nA h 2 40) l0 21 (hN h)) Z) :
    RR G nc ns m_X6_init 95 [some (.ref l0)] [] h Z := by
  refine r_aload_n dX6_init_95 rfl ?_
  refine r_bipush (v := 40) dX6_init_96 (by decide) ?_
  refine r_newarray (kd := 2) (N := 40) dX6_init_98 rfl rfl rfl ac_int (by decide) (by decide) (by decide) (c1) (c2) ?_
  refine r_putR (c := 6) (k := 21) dX6_init_100 rfl rfl (by decide) fl_RX6_46 (c3) (Or.inr ⟨rfl, rfl, rfl⟩) rfl (c4) ?_
  exact k5

set_option maxRecDepth 20000 in
set_option maxHeartbeats 2000000 in
theorem s_X6_init_103 {G : GG} {nc ns : Nat} {h : PH} {Z : Option Value → PH → Prop} {l0 : Nat}
    (c1 : (hN h) + 1 ≤ nc)
    (c2 : (hS h) + 40 ≤ ns)
    (c3 : hK (nA h 2 40) l0 = 16)
    (c4 : (hN h) ≠ 0)
    (k5 : RR G nc ns m_X6_init 111 [some (.ref l0)] [] (sR (nA h 2 40) l0 22 (hN h)) Z) :
    RR G nc ns m_X6_init 103 [some (.ref l0)] [] h Z := by
  refine r_aload_n dX6_init_103 rfl ?_
  refine r_bipush (v := 40) dX6_init_104 (by decide) ?_
  refine r_newarray (kd := 2) (N := 40) dX6_init_106 rfl rfl rfl ac_int (by decide) (by decide) (by decide) (c1) (c2) ?_
  refine r_putR (c := 6) (k := 22) dX6_init_108 rfl rfl (by decide) fl_RX6_49 (c3) (Or.inr ⟨rfl, rfl, rfl⟩) rfl (c4) ?_
  exact k5

set_option maxRecDepth 20000 in
set_option maxHeartbeats 2000000 in
theorem s_X6_init_111 {G : GG} {nc ns : Nat} {h : PH} {Z : Option Value → PH → Prop} {l0 : Nat}
    (c1 : (hN h) + 1 ≤ nc)
    (c2 : (hS h) + 40 ≤ ns)
    (c3 : hK (nA h 2 40) l0 = 16)
    (c4 : (hN h) ≠ 0)
    (k5 : RR G nc ns m_X6_init 119 [some (.ref l0)] [] (sR (nA h 2 40) l0 23 (hN h)) Z) :
    RR G nc ns m_X6_init 111 [some (.ref l0)] [] h Z := by
  refine r_aload_n dX6_init_111 rfl ?_
  refine r_bipush (v := 40) dX6_init_112 (by decide) ?_
  refine r_newarray (kd := 2) (N := 40) dX6_init_114 rfl rfl rfl ac_int (by decide) (by decide) (by decide) (c1) (c2) ?_
  refine r_putR (c := 6) (k := 23) dX6_init_116 rfl rfl (by decide) fl_RX6_52 (c3) (Or.inr ⟨rfl, rfl, rfl⟩) rfl (c4) ?_
  exact k5

set_option maxRecDepth 20000 in
set_option maxHeartbeats 2000000 in
theorem s_X6_init_119 {G : GG} {nc ns : Nat} {h : PH} {Z : Option Value → PH → Prop} {l0 : Nat}
    (c1 : (hN h) + 1 ≤ nc)
    (c2 : (hS h) + 40 ≤ ns)
    (c3 : hK (nA h 4 40) l0 = 16)
    (c4 : (hN h) ≠ 0)
    (k5 : RR G nc ns m_X6_init 127 [some (.ref l0)] [] (sR (nA h 4 40) l0 24 (hN h)) Z) :
    RR G nc ns m_X6_init 119 [some (.ref l0)] [] h Z := by
  refine r_aload_n dX6_init_119 rfl ?_
  refine r_bipush (v := 40) dX6_init_120 (by decide) ?_
  refine r_newarray (kd := 4) (N := 40) dX6_init_122 rfl rfl rfl ac_boolean (by decide) (by decide) (by decide) (c1) (c2) ?_
  refine r_putR (c := 6) (k := 24) dX6_init_124 rfl rfl (by decide) fl_RX6_55 (c3) (Or.inr ⟨rfl, rfl, rfl⟩) rfl (c4) ?_
  exact k5

set_option maxRecDepth 20000 in
set_option maxHeartbeats 2000000 in
theorem s_X6_init_127 {G : GG} {nc ns : Nat} {h : PH} {Z : Option Value → PH → Prop} {l0 : Nat}
    (c1 : (hN h) + 1 ≤ nc)
    (c2 : (hS h) + 40 ≤ ns)
    (c3 : hK (nA h 4 40) l0 = 16)
    (c4 : (hN h) ≠ 0)
    (k5 : RR G nc ns m_X6_init 135 [some (.ref l0)] [] (sR (nA h 4 40) l0 25 (hN h)) Z) :
    RR G nc ns m_X6_init 127 [some (.ref l0)] [] h Z := by
  refine r_aload_n dX6_init_127 rfl ?_
  refine r_bipush (v := 40) dX6_init_128 (by decide) ?_
  refine r_newarray (kd := 4) (N := 40) dX6_init_130 rfl rfl rfl ac_boolean (by decide) (by decide) (by decide) (c1) (c2) ?_
  refine r_putR (c := 6) (k := 25) dX6_init_132 rfl rfl (by decide) fl_RX6_58 (c3) (Or.inr ⟨rfl, rfl, rfl⟩) rfl (c4) ?_
  exact k5

set_option maxRecDepth 20000 in
set_option maxHeartbeats 2000000 in
theorem s_X6_init_135 {G : GG} {nc ns : Nat} {h : PH} {Z : Option Value → PH → Prop} {l0 : Nat}
    (c1 : (hN h) + 1 ≤ nc)
    (c2 : (hS h) + 40 ≤ ns)
    (c3 : hK (nA h 4 40) l0 = 16)
    (c4 : (hN h) ≠ 0)
    (k5 : RR G nc ns m_X6_init 143 [some (.ref l0)] [] (sR (nA h 4 40) l0 26 (hN h)) Z) :
    RR G nc ns m_X6_init 135 [some (.ref l0)] [] h Z := by
  refine r_aload_n dX6_init_135 rfl ?_
  refine r_bipush (v := 40) dX6_init_136 (by decide) ?_
  refine r_newarray (kd := 4) (N := 40) dX6_init_138 rfl rfl rfl ac_boolean (by decide) (by decide) (by decide) (c1) (c2) ?_
  refine r_putR (c := 6) (k := 26) dX6_init_140 rfl rfl (by decide) fl_RX6_61 (c3) (Or.inr ⟨rfl, rfl, rfl⟩) rfl (c4) ?_
  exact k5

set_option maxRecDepth 20000 in
set_option maxHeartbeats 2000000 in
theorem s_X6_init_143 {G : GG} {nc ns : Nat} {h : PH} {Z : Option Value → PH → Prop} {l0 : Nat}
    (c1 : (hN h) + 1 ≤ nc)
    (c2 : (hS h) + 2500 ≤ ns)
    (c3 : hK (nA h 4 2500) l0 = 16)
    (c4 : (hN h) ≠ 0)
    (k5 : RR G nc ns m_X6_init 152 [some (.ref l0)] [] (sR (nA h 4 2500) l0 27 (hN h)) Z) :
    RR G nc ns m_X6_init 143 [some (.ref l0)] [] h Z := by
  refine r_aload_n dX6_init_143 rfl ?_
  refine r_sipush (v := 2500) dX6_init_144 (by decide) ?_
  refine r_newarray (kd := 4) (N := 2500) dX6_init_147 rfl rfl rfl ac_boolean (by decide) (by decide) (by decide) (c1) (c2) ?_
  refine r_putR (c := 6) (k := 27) dX6_init_149 rfl rfl (by decide) fl_RX6_64 (c3) (Or.inr ⟨rfl, rfl, rfl⟩) rfl (c4) ?_
  exact k5

set_option maxRecDepth 20000 in
set_option maxHeartbeats 2000000 in
theorem s_X6_init_152 {G : GG} {nc ns : Nat} {h : PH} {Z : Option Value → PH → Prop} {l0 : Nat}
    (c1 : (hN h) + 1 ≤ nc)
    (c2 : (hS h) + 50 ≤ ns)
    (c3 : hK (nA h 4 50) l0 = 16)
    (c4 : (hN h) ≠ 0)
    (k5 : RR G nc ns m_X6_init 160 [some (.ref l0)] [] (sR (nA h 4 50) l0 30 (hN h)) Z) :
    RR G nc ns m_X6_init 152 [some (.ref l0)] [] h Z := by
  refine r_aload_n dX6_init_152 rfl ?_
  refine r_bipush (v := 50) dX6_init_153 (by decide) ?_
  refine r_newarray (kd := 4) (N := 50) dX6_init_155 rfl rfl rfl ac_boolean (by decide) (by decide) (by decide) (c1) (c2) ?_
  refine r_putR (c := 6) (k := 30) dX6_init_157 rfl rfl (by decide) fl_RX6_67 (c3) (Or.inr ⟨rfl, rfl, rfl⟩) rfl (c4) ?_
  exact k5

set_option maxRecDepth 20000 in
set_option maxHeartbeats 2000000 in
theorem s_X6_init_160 {G : GG} {nc ns : Nat} {h : PH} {Z : Option Value → PH → Prop} {l0 : Nat}
    (c1 : (hN h) + 1 ≤ nc)
    (c2 : (hS h) + 50 ≤ ns)
    (c3 : hK (nA h 4 50) l0 = 16)
    (c4 : (hN h) ≠ 0)
    (k5 : RR G nc ns m_X6_init 168 [some (.ref l0)] [] (sR (nA h 4 50) l0 31 (hN h)) Z) :
    RR G nc ns m_X6_init 160 [some (.ref l0)] [] h Z := by
  refine r_aload_n dX6_init_160 rfl ?_
  refine r_bipush (v := 50) dX6_init_161 (by decide) ?_
  refine r_newarray (kd := 4) (N := 50) dX6_init_163 rfl rfl rfl ac_boolean (by decide) (by decide) (by decide) (c1) (c2) ?_
  refine r_putR (c := 6) (k := 31) dX6_init_165 rfl rfl (by decide) fl_RX6_70 (c3) (Or.inr ⟨rfl, rfl, rfl⟩) rfl (c4) ?_
  exact k5

set_option maxRecDepth 20000 in
set_option maxHeartbeats 2000000 in
theorem s_X6_init_168 {G : GG} {nc ns : Nat} {h : PH} {Z : Option Value → PH → Prop} {l0 : Nat}
    (c1 : (hN h) + 1 ≤ nc)
    (c2 : (hS h) + 50 ≤ ns)
    (c3 : hK (nA h 2 50) l0 = 16)
    (c4 : (hN h) ≠ 0)
    (k5 : RR G nc ns m_X6_init 176 [some (.ref l0)] [] (sR (nA h 2 50) l0 32 (hN h)) Z) :
    RR G nc ns m_X6_init 168 [some (.ref l0)] [] h Z := by
  refine r_aload_n dX6_init_168 rfl ?_
  refine r_bipush (v := 50) dX6_init_169 (by decide) ?_
  refine r_newarray (kd := 2) (N := 50) dX6_init_171 rfl rfl rfl ac_int (by decide) (by decide) (by decide) (c1) (c2) ?_
  refine r_putR (c := 6) (k := 32) dX6_init_173 rfl rfl (by decide) fl_RX6_73 (c3) (Or.inr ⟨rfl, rfl, rfl⟩) rfl (c4) ?_
  exact k5

set_option maxRecDepth 20000 in
set_option maxHeartbeats 2000000 in
theorem s_X6_init_176 {G : GG} {nc ns : Nat} {h : PH} {Z : Option Value → PH → Prop} {l0 : Nat}
    (c1 : (hN h) + 1 ≤ nc)
    (c2 : (hS h) + 50 ≤ ns)
    (c3 : hK (nA h 2 50) l0 = 16)
    (c4 : (hN h) ≠ 0)
    (k5 : RR G nc ns m_X6_init 184 [some (.ref l0)] [] (sR (nA h 2 50) l0 33 (hN h)) Z) :
    RR G nc ns m_X6_init 176 [some (.ref l0)] [] h Z := by
  refine r_aload_n dX6_init_176 rfl ?_
  refine r_bipush (v := 50) dX6_init_177 (by decide) ?_
  refine r_newarray (kd := 2) (N := 50) dX6_init_179 rfl rfl rfl ac_int (by decide) (by decide) (by decide) (c1) (c2) ?_
  refine r_putR (c := 6) (k := 33) dX6_init_181 rfl rfl (by decide) fl_RX6_76 (c3) (Or.inr ⟨rfl, rfl, rfl⟩) rfl (c4) ?_
  exact k5

set_option maxRecDepth 20000 in
set_option maxHeartbeats 2000000 in
theorem s_X6_init_184 {G : GG} {nc ns : Nat} {h : PH} {Z : Option Value → PH → Prop} {l0 : Nat}
    (c1 : (hN h) + 1 ≤ nc)
    (c2 : (hS h) + 50 ≤ ns)
    (c3 : hK (nA h 2 50) l0 = 16)
    (c4 : (hN h) ≠ 0)
    (k5 : RR G nc ns m_X6_init 192 [some (.ref l0)] [] (sR (nA h 2 50) l0 34 (hN h)) Z) :
    RR G nc ns m_X6_init 184 [some (.ref l0)] [] h Z := by
  refine r_aload_n dX6_init_184 rfl ?_
  refine r_bipush (v := 50) dX6_init_185 (by decide) ?_
  refine r_newarray (kd := 2) (N := 50) dX6_init_187 rfl rfl rfl ac_int (by decide) (by decide) (by decide) (c1) (c2) ?_
  refine r_putR (c := 6) (k := 34) dX6_init_189 rfl rfl (by decide) fl_RX6_79 (c3) (Or.inr ⟨rfl, rfl, rfl⟩) rfl (c4) ?_
  exact k5

set_option maxRecDepth 20000 in
set_option maxHeartbeats 2000000 in
theorem s_X6_init_192 {G : GG} {nc ns : Nat} {h : PH} {Z : Option Value → PH → Prop} {l0 : Nat}
    (c1 : (hN h) + 1 ≤ nc)
    (c2 : (hS h) + 50 ≤ ns)
    (c3 : hK (nA h 2 50) l0 = 16)
    (c4 : (hN h) ≠ 0)
    (k5 : RR G nc ns m_X6_init 200 [some (.ref l0)] [] (sR (nA h 2 50) l0 35 (hN h)) Z) :
    RR G nc ns m_X6_init 192 [some (.ref l0)] [] h Z := by
  refine r_aload_n dX6_init_192 rfl ?_
  refine r_bipush (v := 50) dX6_init_193 (by decide) ?_
  refine r_newarray (kd := 2) (N := 50) dX6_init_195 rfl rfl rfl ac_int (by decide) (by decide) (by decide) (c1) (c2) ?_
  refine r_putR (c := 6) (k := 35) dX6_init_197 rfl rfl (by decide) fl_RX6_82 (c3) (Or.inr ⟨rfl, rfl, rfl⟩) rfl (c4) ?_
  exact k5

set_option maxRecDepth 20000 in
set_option maxHeartbeats 2000000 in
theorem s_X6_init_200 {G : GG} {nc ns : Nat} {h : PH} {Z : Option Value → PH → Prop} {l0 : Nat}
    (c1 : (hN h) + 1 ≤ nc)
    (c2 : (hS h) + 50 ≤ ns)
    (c3 : hK (nA h 2 50) l0 = 16)
    (c4 : (hN h) ≠ 0)
    (k5 : RR G nc ns m_X6_init 208 [some (.ref l0)] [] (sR (nA h 2 50) l0 36 (hN h)) Z) :
    RR G nc ns m_X6_init 200 [some (.ref l0)] [] h Z := by
  refine r_aload_n dX6_init_200 rfl ?_
  refine r_bipush (v := 50) dX6_init_201 (by decide) ?_
  refine r_newarray (kd := 2) (N := 50) dX6_init_203 rfl rfl rfl ac_int (by decide) (by decide) (by decide) (c1) (c2) ?_
  refine r_putR (c := 6) (k := 36) dX6_init_205 rfl rfl (by decide) fl_RX6_85 (c3) (Or.inr ⟨rfl, rfl, rfl⟩) rfl (c4) ?_
  exact k5

set_option maxRecDepth 20000 in
set_option maxHeartbeats 2000000 in
theorem s_X6_init_208 {G : GG} {nc ns : Nat} {h : PH} {Z : Option Value → PH → Prop} {l0 : Nat}
    (c1 : (hN h) + 1 ≤ nc)
    (c2 : (hS h) + 50 ≤ ns)
    (c3 : hK (nA h 2 50) l0 = 16)
    (c4 : (hN h) ≠ 0)
    (k5 : RR G nc ns m_X6_init 216 [some (.ref l0)] [] (sR (nA h 2 50) l0 37 (hN h)) Z) :
    RR G nc ns m_X6_init 208 [some (.ref l0)] [] h Z := by
  refine r_aload_n dX6_init_208 rfl ?_
  refine r_bipush (v := 50) dX6_init_209 (by decide) ?_
  refine r_newarray (kd := 2) (N := 50) dX6_init_211 rfl rfl rfl ac_int (by decide) (by decide) (by decide) (c1) (c2) ?_
  refine r_putR (c := 6) (k := 37) dX6_init_213 rfl rfl (by decide) fl_RX6_88 (c3) (Or.inr ⟨rfl, rfl, rfl⟩) rfl (c4) ?_
  exact k5

set_option maxRecDepth 20000 in
set_option maxHeartbeats 2000000 in
theorem s_X6_init_216 {G : GG} {nc ns : Nat} {h : PH} {Z : Option Value → PH → Prop} {l0 : Nat}
    (k1 : Z none h) :
    RR G nc ns m_X6_init 216 [some (.ref l0)] [] h Z := by
  exact r_return dX6_init_216 rfl (k1)

set_option maxRecDepth 20000 in
set_option maxHeartbeats 2000000 in
theorem s_X6_use_0 {G : GG} {nc ns : Nat} {h : PH} {Z : Option Value → PH → Prop} {l0 : Nat} {l1 : Nat} {l2 : Int32} {l3 : Int32}
    (c1 : hK h l0 = 16)
    (k2 : RR G nc ns m_X6_use 13 [some (.ref l0), some (.ref l1), some (.int l2), some (.int l3), some (.int 0)] [] (sI (sI h l0 28 l2) l0 29 l3) Z) :
    RR G nc ns m_X6_use 0 [some (.ref l0), some (.ref l1), some (.int l2), some (.int l3), none] [] h Z := by
  refine r_aload_n dX6_use_0 rfl ?_
  refine r_iload_n dX6_use_1 rfl ?_
  refine r_putI (c := 6) (k := 28) dX6_use_2 rfl rfl (by decide) fl_RX6_91 (c1) (Or.inl rfl) (Or.inl rfl) ?_
  refine r_aload_n dX6_use_5 rfl ?_
  refine r_iload_n dX6_use_6 rfl ?_
  refine r_putI (c := 6) (k := 29) dX6_use_7 rfl rfl (by decide) fl_RX6_95 (c1) (Or.inl rfl) (Or.inl rfl) ?_
  refine r_iconst (v := 0) dX6_use_10 (by decide) ?_
  refine r_istoreL [some (.ref l0), some (.ref l1), some (.int l2), some (.int l3), some (.int 0)] dX6_use_11 (by decide) rfl ?_
  exact k2

set_option maxRecDepth 20000 in
set_option maxHeartbeats 2000000 in
theorem s_X6_use_13 {G : GG} {nc ns : Nat} {h : PH} {Z : Option Value → PH → Prop} {l0 : Nat} {l1 : Nat} {l2 : Int32} {l3 : Int32} {l4 : Int32}
    (k1 : (2500 ≤ l4) → RR G nc ns m_X6_use 41 [some (.ref l0), some (.ref l1), some (.int l2), some (.int l3), some (.int 0)] [] h Z)
    (c2 : hK h l0 = 16)
    (c3 : (hR h l0 27) ≠ 0)
    (c4 : hK h l1 = 4)
    (c5 : (¬ 2500 ≤ l4) → vp_in l4 (hL h l1))
    (c6 : hK h (hR h l0 27) = 4)
    (c7 : (¬ 2500 ≤ l4) → vp_in l4 (hL h (hR h l0 27)))
    (c8 : (¬ 2500 ≤ l4) → ((hI h l1 (Int32.toNatClampNeg l4)) = 0 ∨ (hI h l1 (Int32.toNatClampNeg l4)) = 1))
    (k9 : (¬ 2500 ≤ l4) → RR G nc ns m_X6_use 13 [some (.ref l0), some (.ref l1), some (.int l2), some (.int l3), some (.int (l4 + 1))] [] (sI h (hR h l0 27) (Int32.toNatClampNeg l4) (hI h l1 (Int32.toNatClampNeg l4))) Z) :
    RR G nc ns m_X6_use 13 [some (.ref l0), some (.ref l1), some (.int l2), some (.int l3), some (.int l4)] [] h Z := by
  refine r_iload dX6_use_13 rfl ?_
  refine r_sipush (v := 2500) dX6_use_15 (by decide) ?_
  refine r_icmp_ge 38 dX6_use_18 (by decide) (fun q1 => ?_) (fun q1 => ?_)
  · refine r_iconst (v := 0) dX6_use_38 (by decide) ?_
    refine r_istoreL [some (.ref l0), some (.ref l1), some (.int l2), some (.int l3), some (.int 0)] dX6_use_39 (by decide) rfl ?_
    exact k1 q1
  · refine r_aload_n dX6_use_21 rfl ?_
    refine r_getR (c := 6) (k := 27) dX6_use_22 rfl rfl (by decide) fl_RX6_64 (c2) rfl (c3) ?_
    refine r_iload dX6_use_25 rfl ?_
    refine r_aload_n dX6_use_27 rfl ?_
    refine r_iload dX6_use_28 rfl ?_
    refine r_baloadJ (Int32.toNatClampNeg l4) dX6_use_30 (c4) (c5 q1) rfl ?_
    refine r_bastoreJ (Int32.toNatClampNeg l4) dX6_use_31 (c6) (c7 q1) rfl (c8 q1) ?_
    refine r_iincL (v := l4 + 1) [some (.ref l0), some (.ref l1), some (.int l2), some (.int l3), some (.int (l4 + 1))] dX6_use_32 rfl (by decide) rfl rfl ?_
    refine r_goto (tgt := 13) dX6_use_35 (by decide) ?_
    exact k9 q1

set_option maxRecDepth 20000 in
set_option maxHeartbeats 2000000 in
theorem s_X6_use_41 {G : GG} {nc ns : Nat} {h : PH} {Z : Option Value → PH → Prop} {l0 : Nat} {l1 : Nat} {l2 : Int32} {l3 : Int32} {l4 : Int32}
    (k1 : (50 ≤ l4) → Z none h)
    (c2 : hK h l0 = 16)
    (c3 : (hR h l0 30) ≠ 0)
    (c4 : hK h (hR h l0 30) = 4)
    (c5 : (¬ 50 ≤ l4) → (l4 < (hI h l0 28)) → vp_in l4 (hL h (hR h l0 30)))
    (c6 : (hR h l0 31) ≠ 0)
    (c7 : hK h (hR h l0 31) = 4)
    (c8 : (¬ 50 ≤ l4) → (l4 < (hI h l0 28)) → (l4 < (hI (sI h (hR h l0 30) (Int32.toNatClampNeg l4) 0) l0 29)) → vp_in l4 (hL h (hR h l0 31)))
    (c9 : (hR h l0 32) ≠ 0)
    (c10 : hK h (hR h l0 32) = 2)
    (c11 : (¬ 50 ≤ l4) → (l4 < (hI h l0 28)) → (l4 < (hI (sI h (hR h l0 30) (Int32.toNatClampNeg l4) 0) l0 29)) → vp_in l4 (hL h (hR h l0 32)))
    (c12 : (hR h l0 33) ≠ 0)
    (c13 : hK h (hR h l0 33) = 2)
    (c14 : (¬ 50 ≤ l4) → (l4 < (hI h l0 28)) → (l4 < (hI (sI h (hR h l0 30) (Int32.toNatClampNeg l4) 0) l0 29)) → vp_in l4 (hL h (hR h l0 33)))
    (k15 : (¬ 50 ≤ l4) → (l4 < (hI h l0 28)) → (l4 < (hI (sI h (hR h l0 30) (Int32.toNatClampNeg l4) 0) l0 29)) → RR G nc ns m_X6_use 41 [some (.ref l0), some (.ref l1), some (.int l2), some (.int l3), some (.int (l4 + 1))] [] (sI (sI (sI (sI h (hR h l0 30) (Int32.toNatClampNeg l4) 0) (hR h l0 31) (Int32.toNatClampNeg l4) 0) (hR h l0 32) (Int32.toNatClampNeg l4) (-1)) (hR h l0 33) (Int32.toNatClampNeg l4) (-1)) Z)
    (c16 : (¬ 50 ≤ l4) → (l4 < (hI h l0 28)) → (¬ l4 < (hI (sI h (hR h l0 30) (Int32.toNatClampNeg l4) 0) l0 29)) → vp_in l4 (hL h (hR h l0 31)))
    (c17 : (¬ 50 ≤ l4) → (l4 < (hI h l0 28)) → (¬ l4 < (hI (sI h (hR h l0 30) (Int32.toNatClampNeg l4) 0) l0 29)) → vp_in l4 (hL h (hR h l0 32)))
    (c18 : (¬ 50 ≤ l4) → (l4 < (hI h l0 28)) → (¬ l4 < (hI (sI h (hR h l0 30) (Int32.toNatClampNeg l4) 0) l0 29)) → vp_in l4 (hL h (hR h l0 33)))
    (k19 : (¬ 50 ≤ l4) → (l4 < (hI h l0 28)) → (¬ l4 < (hI (sI h (hR h l0 30) (Int32.toNatClampNeg l4) 0) l0 29)) → RR G nc ns m_X6_use 41 [some (.ref l0), some (.ref l1), some (.int l2), some (.int l3), some (.int (l4 + 1))] [] (sI (sI (sI (sI h (hR h l0 30) (Int32.toNatClampNeg l4) 0) (hR h l0 31) (Int32.toNatClampNeg l4) 1) (hR h l0 32) (Int32.toNatClampNeg l4) (-1)) (hR h l0 33) (Int32.toNatClampNeg l4) (-1)) Z)
    (c20 : (¬ 50 ≤ l4) → (¬ l4 < (hI h l0 28)) → vp_in l4 (hL h (hR h l0 30)))
    (c21 : (¬ 50 ≤ l4) → (¬ l4 < (hI h l0 28)) → (l4 < (hI (sI h (hR h l0 30) (Int32.toNatClampNeg l4) 1) l0 29)) → vp_in l4 (hL h (hR h l0 31)))
    (c22 : (¬ 50 ≤ l4) → (¬ l4 < (hI h l0 28)) → (l4 < (hI (sI h (hR h l0 30) (Int32.toNatClampNeg l4) 1) l0 29)) → vp_in l4 (hL h (hR h l0 32)))
    (c23 : (¬ 50 ≤ l4) → (¬ l4 < (hI h l0 28)) → (l4 < (hI (sI h (hR h l0 30) (Int32.toNatClampNeg l4) 1) l0 29)) → vp_in l4 (hL h (hR h l0 33)))
    (k24 : (¬ 50 ≤ l4) → (¬ l4 < (hI h l0 28)) → (l4 < (hI (sI h (hR h l0 30) (Int32.toNatClampNeg l4) 1) l0 29)) → RR G nc ns m_X6_use 41 [some (.ref l0), some (.ref l1), some (.int l2), some (.int l3), some (.int (l4 + 1))] [] (sI (sI (sI (sI h (hR h l0 30) (Int32.toNatClampNeg l4) 1) (hR h l0 31) (Int32.toNatClampNeg l4) 0) (hR h l0 32) (Int32.toNatClampNeg l4) (-1)) (hR h l0 33) (Int32.toNatClampNeg l4) (-1)) Z)
    (c25 : (¬ 50 ≤ l4) → (¬ l4 < (hI h l0 28)) → (¬ l4 < (hI (sI h (hR h l0 30) (Int32.toNatClampNeg l4) 1) l0 29)) → vp_in l4 (hL h (hR h l0 31)))
    (c26 : (¬ 50 ≤ l4) → (¬ l4 < (hI h l0 28)) → (¬ l4 < (hI (sI h (hR h l0 30) (Int32.toNatClampNeg l4) 1) l0 29)) → vp_in l4 (hL h (hR h l0 32)))
    (c27 : (¬ 50 ≤ l4) → (¬ l4 < (hI h l0 28)) → (¬ l4 < (hI (sI h (hR h l0 30) (Int32.toNatClampNeg l4) 1) l0 29)) → vp_in l4 (hL h (hR h l0 33)))
    (k28 : (¬ 50 ≤ l4) → (¬ l4 < (hI h l0 28)) → (¬ l4 < (hI (sI h (hR h l0 30) (Int32.toNatClampNeg l4) 1) l0 29)) → RR G nc ns m_X6_use 41 [some (.ref l0), some (.ref l1), some (.int l2), some (.int l3), some (.int (l4 + 1))] [] (sI (sI (sI (sI h (hR h l0 30) (Int32.toNatClampNeg l4) 1) (hR h l0 31) (Int32.toNatClampNeg l4) 1) (hR h l0 32) (Int32.toNatClampNeg l4) (-1)) (hR h l0 33) (Int32.toNatClampNeg l4) (-1)) Z) :
    RR G nc ns m_X6_use 41 [some (.ref l0), some (.ref l1), some (.int l2), some (.int l3), some (.int l4)] [] h Z := by
  refine r_iload dX6_use_41 rfl ?_
  refine r_bipush (v := 50) dX6_use_43 (by decide) ?_
  refine r_icmp_ge 112 dX6_use_45 (by decide) (fun q1 => ?_) (fun q1 => ?_)
  · exact r_return dX6_use_112 rfl (k1 q1)
  · refine r_aload_n dX6_use_48 rfl ?_
    refine r_getR (c := 6) (k := 30) dX6_use_49 rfl rfl (by decide) fl_RX6_67 (c2) rfl (c3) ?_
    refine r_iload dX6_use_52 rfl ?_
    refine r_iload dX6_use_54 rfl ?_
    refine r_aload_n dX6_use_56 rfl ?_
    refine r_get (c := 6) (k := 28) dX6_use_57 rfl rfl (by decide) fl_RX6_91 (c2) rfl ?_
    refine r_icmp_lt 67 dX6_use_60 (by decide) (fun q2 => ?_) (fun q2 => ?_)
    · refine r_iconst (v := 0) dX6_use_67 (by decide) ?_
      refine r_bastoreJ (Int32.toNatClampNeg l4) dX6_use_68 (c4) (c5 q1 q2) rfl (by decide) ?_
      refine r_aload_n dX6_use_69 rfl ?_
      refine r_getR (c := 6) (k := 31) dX6_use_70 rfl rfl (by decide) fl_RX6_70 (c2) rfl (c6) ?_
      refine r_iload dX6_use_73 rfl ?_
      refine r_iload dX6_use_75 rfl ?_
      refine r_aload_n dX6_use_77 rfl ?_
      refine r_get (c := 6) (k := 29) dX6_use_78 rfl rfl (by decide) fl_RX6_95 (c2) rfl ?_
      refine r_icmp_lt 88 dX6_use_81 (by decide) (fun q3 => ?_) (fun q3 => ?_)
      · refine r_iconst (v := 0) dX6_use_88 (by decide) ?_
        refine r_bastoreJ (Int32.toNatClampNeg l4) dX6_use_89 (c7) (c8 q1 q2 q3) rfl (by decide) ?_
        refine r_aload_n dX6_use_90 rfl ?_
        refine r_getR (c := 6) (k := 32) dX6_use_91 rfl rfl (by decide) fl_RX6_73 (c2) rfl (c9) ?_
        refine r_iload dX6_use_94 rfl ?_
        refine r_iconst (v := (-1)) dX6_use_96 (by decide) ?_
        refine r_iastoreJ (Int32.toNatClampNeg l4) dX6_use_97 (c10) (c11 q1 q2 q3) rfl ?_
        refine r_aload_n dX6_use_98 rfl ?_
        refine r_getR (c := 6) (k := 33) dX6_use_99 rfl rfl (by decide) fl_RX6_76 (c2) rfl (c12) ?_
        refine r_iload dX6_use_102 rfl ?_
        refine r_iconst (v := (-1)) dX6_use_104 (by decide) ?_
        refine r_iastoreJ (Int32.toNatClampNeg l4) dX6_use_105 (c13) (c14 q1 q2 q3) rfl ?_
        refine r_iincL (v := l4 + 1) [some (.ref l0), some (.ref l1), some (.int l2), some (.int l3), some (.int (l4 + 1))] dX6_use_106 rfl (by decide) rfl rfl ?_
        refine r_goto (tgt := 41) dX6_use_109 (by decide) ?_
        exact k15 q1 q2 q3
      · refine r_iconst (v := 1) dX6_use_84 (by decide) ?_
        refine r_goto (tgt := 89) dX6_use_85 (by decide) ?_
        refine r_bastoreJ (Int32.toNatClampNeg l4) dX6_use_89 (c7) (c16 q1 q2 q3) rfl (by decide) ?_
        refine r_aload_n dX6_use_90 rfl ?_
        refine r_getR (c := 6) (k := 32) dX6_use_91 rfl rfl (by decide) fl_RX6_73 (c2) rfl (c9) ?_
        refine r_iload dX6_use_94 rfl ?_
        refine r_iconst (v := (-1)) dX6_use_96 (by decide) ?_
        refine r_iastoreJ (Int32.toNatClampNeg l4) dX6_use_97 (c10) (c17 q1 q2 q3) rfl ?_
        refine r_aload_n dX6_use_98 rfl ?_
        refine r_getR (c := 6) (k := 33) dX6_use_99 rfl rfl (by decide) fl_RX6_76 (c2) rfl (c12) ?_
        refine r_iload dX6_use_102 rfl ?_
        refine r_iconst (v := (-1)) dX6_use_104 (by decide) ?_
        refine r_iastoreJ (Int32.toNatClampNeg l4) dX6_use_105 (c13) (c18 q1 q2 q3) rfl ?_
        refine r_iincL (v := l4 + 1) [some (.ref l0), some (.ref l1), some (.int l2), some (.int l3), some (.int (l4 + 1))] dX6_use_106 rfl (by decide) rfl rfl ?_
        refine r_goto (tgt := 41) dX6_use_109 (by decide) ?_
        exact k19 q1 q2 q3
    · refine r_iconst (v := 1) dX6_use_63 (by decide) ?_
      refine r_goto (tgt := 68) dX6_use_64 (by decide) ?_
      refine r_bastoreJ (Int32.toNatClampNeg l4) dX6_use_68 (c4) (c20 q1 q2) rfl (by decide) ?_
      refine r_aload_n dX6_use_69 rfl ?_
      refine r_getR (c := 6) (k := 31) dX6_use_70 rfl rfl (by decide) fl_RX6_70 (c2) rfl (c6) ?_
      refine r_iload dX6_use_73 rfl ?_
      refine r_iload dX6_use_75 rfl ?_
      refine r_aload_n dX6_use_77 rfl ?_
      refine r_get (c := 6) (k := 29) dX6_use_78 rfl rfl (by decide) fl_RX6_95 (c2) rfl ?_
      refine r_icmp_lt 88 dX6_use_81 (by decide) (fun q4 => ?_) (fun q4 => ?_)
      · refine r_iconst (v := 0) dX6_use_88 (by decide) ?_
        refine r_bastoreJ (Int32.toNatClampNeg l4) dX6_use_89 (c7) (c21 q1 q2 q4) rfl (by decide) ?_
        refine r_aload_n dX6_use_90 rfl ?_
        refine r_getR (c := 6) (k := 32) dX6_use_91 rfl rfl (by decide) fl_RX6_73 (c2) rfl (c9) ?_
        refine r_iload dX6_use_94 rfl ?_
        refine r_iconst (v := (-1)) dX6_use_96 (by decide) ?_
        refine r_iastoreJ (Int32.toNatClampNeg l4) dX6_use_97 (c10) (c22 q1 q2 q4) rfl ?_
        refine r_aload_n dX6_use_98 rfl ?_
        refine r_getR (c := 6) (k := 33) dX6_use_99 rfl rfl (by decide) fl_RX6_76 (c2) rfl (c12) ?_
        refine r_iload dX6_use_102 rfl ?_
        refine r_iconst (v := (-1)) dX6_use_104 (by decide) ?_
        refine r_iastoreJ (Int32.toNatClampNeg l4) dX6_use_105 (c13) (c23 q1 q2 q4) rfl ?_
        refine r_iincL (v := l4 + 1) [some (.ref l0), some (.ref l1), some (.int l2), some (.int l3), some (.int (l4 + 1))] dX6_use_106 rfl (by decide) rfl rfl ?_
        refine r_goto (tgt := 41) dX6_use_109 (by decide) ?_
        exact k24 q1 q2 q4
      · refine r_iconst (v := 1) dX6_use_84 (by decide) ?_
        refine r_goto (tgt := 89) dX6_use_85 (by decide) ?_
        refine r_bastoreJ (Int32.toNatClampNeg l4) dX6_use_89 (c7) (c25 q1 q2 q4) rfl (by decide) ?_
        refine r_aload_n dX6_use_90 rfl ?_
        refine r_getR (c := 6) (k := 32) dX6_use_91 rfl rfl (by decide) fl_RX6_73 (c2) rfl (c9) ?_
        refine r_iload dX6_use_94 rfl ?_
        refine r_iconst (v := (-1)) dX6_use_96 (by decide) ?_
        refine r_iastoreJ (Int32.toNatClampNeg l4) dX6_use_97 (c10) (c26 q1 q2 q4) rfl ?_
        refine r_aload_n dX6_use_98 rfl ?_
        refine r_getR (c := 6) (k := 33) dX6_use_99 rfl rfl (by decide) fl_RX6_76 (c2) rfl (c12) ?_
        refine r_iload dX6_use_102 rfl ?_
        refine r_iconst (v := (-1)) dX6_use_104 (by decide) ?_
        refine r_iastoreJ (Int32.toNatClampNeg l4) dX6_use_105 (c13) (c27 q1 q2 q4) rfl ?_
        refine r_iincL (v := l4 + 1) [some (.ref l0), some (.ref l1), some (.int l2), some (.int l3), some (.int (l4 + 1))] dX6_use_106 rfl (by decide) rfl rfl ?_
        refine r_goto (tgt := 41) dX6_use_109 (by decide) ?_
        exact k28 q1 q2 q4

set_option maxRecDepth 20000 in
set_option maxHeartbeats 2000000 in
theorem s_X6_begin_0 {G : GG} {nc ns : Nat} {h : PH} {Z : Option Value → PH → Prop} {l0 : Nat}
    (c1 : hK h l0 = 16)
    (k2 : RR G nc ns m_X6_begin 7 [some (.ref l0), some (.int 0)] [] (sI h l0 38 0) Z) :
    RR G nc ns m_X6_begin 0 [some (.ref l0), none] [] h Z := by
  refine r_aload_n dX6_begin_0 rfl ?_
  refine r_iconst (v := 0) dX6_begin_1 (by decide) ?_
  refine r_putI (c := 6) (k := 38) dX6_begin_2 rfl rfl (by decide) fl_RX6_98 (c1) (Or.inl rfl) (Or.inl rfl) ?_
  refine r_iconst (v := 0) dX6_begin_5 (by decide) ?_
  refine r_istore_nL [some (.ref l0), some (.int 0)] dX6_begin_6 (by decide) rfl ?_
  exact k2

set_option maxRecDepth 20000 in
set_option maxHeartbeats 2000000 in
theorem s_X6_begin_7 {G : GG} {nc ns : Nat} {h : PH} {Z : Option Value → PH → Prop} {l0 : Nat} {l1 : Int32}
    (k1 : (50 ≤ l1) → RR G nc ns m_X6_begin 28 [some (.ref l0), some (.int 0)] [] h Z)
    (c2 : hK h l0 = 16)
    (c3 : (hR h l0 37) ≠ 0)
    (c4 : hK h (hR h l0 37) = 2)
    (c5 : (¬ 50 ≤ l1) → vp_in l1 (hL h (hR h l0 37)))
    (k6 : (¬ 50 ≤ l1) → RR G nc ns m_X6_begin 7 [some (.ref l0), some (.int (l1 + 1))] [] (sI h (hR h l0 37) (Int32.toNatClampNeg l1) (-1)) Z) :
    RR G nc ns m_X6_begin 7 [some (.ref l0), some (.int l1)] [] h Z := by
  refine r_iload_n dX6_begin_7 rfl ?_
  refine r_bipush (v := 50) dX6_begin_8 (by decide) ?_
  refine r_icmp_ge 26 dX6_begin_10 (by decide) (fun q1 => ?_) (fun q1 => ?_)
  · refine r_iconst (v := 0) dX6_begin_26 (by decide) ?_
    refine r_istore_nL [some (.ref l0), some (.int 0)] dX6_begin_27 (by decide) rfl ?_
    exact k1 q1
  · refine r_aload_n dX6_begin_13 rfl ?_
    refine r_getR (c := 6) (k := 37) dX6_begin_14 rfl rfl (by decide) fl_RX6_88 (c2) rfl (c3) ?_
    refine r_iload_n dX6_begin_17 rfl ?_
    refine r_iconst (v := (-1)) dX6_begin_18 (by decide) ?_
    refine r_iastoreJ (Int32.toNatClampNeg l1) dX6_begin_19 (c4) (c5 q1) rfl ?_
    refine r_iincL (v := l1 + 1) [some (.ref l0), some (.int (l1 + 1))] dX6_begin_20 rfl (by decide) rfl rfl ?_
    refine r_goto (tgt := 7) dX6_begin_23 (by decide) ?_
    exact k6 q1

set_option maxRecDepth 20000 in
set_option maxHeartbeats 2000000 in
theorem s_X6_begin_28 {G : GG} {nc ns : Nat} {h : PH} {Z : Option Value → PH → Prop} {l0 : Nat} {l1 : Int32}
    (c1 : hK h l0 = 16)
    (k2 : ((hI h l0 28) ≤ l1) → Z none h)
    (c3 : (hR h l0 30) ≠ 0)
    (c4 : hK h (hR h l0 30) = 4)
    (c5 : (¬ (hI h l0 28) ≤ l1) → vp_in l1 (hL h (hR h l0 30)))
    (k6 : (¬ (hI h l0 28) ≤ l1) → (¬ (hI h (hR h l0 30) (Int32.toNatClampNeg l1)) = 0) → RR G nc ns m_X6_begin 28 [some (.ref l0), some (.int (l1 + 1))] [] h Z)
    (c7 : (hR h l0 32) ≠ 0)
    (c8 : hK h (hR h l0 32) = 2)
    (c9 : (¬ (hI h l0 28) ≤ l1) → ((hI h (hR h l0 30) (Int32.toNatClampNeg l1)) = 0) → vp_in l1 (hL h (hR h l0 32)))
    (k10 : (¬ (hI h l0 28) ≤ l1) → ((hI h (hR h l0 30) (Int32.toNatClampNeg l1)) = 0) → (0 ≤ (hI h (hR h l0 32) (Int32.toNatClampNeg l1))) → RR G nc ns m_X6_begin 28 [some (.ref l0), some (.int (l1 + 1))] [] h Z)
    (c11 : (hR h l0 36) ≠ 0)
    (c12 : hK h (hR h l0 36) = 2)
    (c13 : (¬ (hI h l0 28) ≤ l1) → ((hI h (hR h l0 30) (Int32.toNatClampNeg l1)) = 0) → (¬ 0 ≤ (hI h (hR h l0 32) (Int32.toNatClampNeg l1))) → vp_in (hI h l0 38) (hL h (hR h l0 36)))
    (k14 : (¬ (hI h l0 28) ≤ l1) → ((hI h (hR h l0 30) (Int32.toNatClampNeg l1)) = 0) → (¬ 0 ≤ (hI h (hR h l0 32) (Int32.toNatClampNeg l1))) → RR G nc ns m_X6_begin 28 [some (.ref l0), some (.int (l1 + 1))] [] (sI (sI h (hR h l0 36) (Int32.toNatClampNeg (hI h l0 38)) l1) l0 38 ((hI (sI h (hR h l0 36) (Int32.toNatClampNeg (hI h l0 38)) l1) l0 38) + 1)) Z) :
    RR G nc ns m_X6_begin 28 [some (.ref l0), some (.int l1)] [] h Z := by
  refine r_iload_n dX6_begin_28 rfl ?_
  refine r_aload_n dX6_begin_29 rfl ?_
  refine r_get (c := 6) (k := 28) dX6_begin_30 rfl rfl (by decide) fl_RX6_91 (c1) rfl ?_
  refine r_icmp_ge 80 dX6_begin_33 (by decide) (fun q1 => ?_) (fun q1 => ?_)
  · exact r_return dX6_begin_80 rfl (k2 q1)
  · refine r_aload_n dX6_begin_36 rfl ?_
    refine r_getR (c := 6) (k := 30) dX6_begin_37 rfl rfl (by decide) fl_RX6_67 (c1) rfl (c3) ?_
    refine r_iload_n dX6_begin_40 rfl ?_
    refine r_baloadJ (Int32.toNatClampNeg l1) dX6_begin_41 (c4) (c5 q1) rfl ?_
    refine r_if_ne 74 dX6_begin_42 (by decide) (fun q2 => ?_) (fun q2 => ?_)
    · refine r_iincL (v := l1 + 1) [some (.ref l0), some (.int (l1 + 1))] dX6_begin_74 rfl (by decide) rfl rfl ?_
      refine r_goto (tgt := 28) dX6_begin_77 (by decide) ?_
      exact k6 q1 q2
    · refine r_aload_n dX6_begin_45 rfl ?_
      refine r_getR (c := 6) (k := 32) dX6_begin_46 rfl rfl (by decide) fl_RX6_73 (c1) rfl (c7) ?_
      refine r_iload_n dX6_begin_49 rfl ?_
      refine r_ialoadJ (Int32.toNatClampNeg l1) dX6_begin_50 (c8) (c9 q1 q2) rfl ?_
      refine r_if_ge 74 dX6_begin_51 (by decide) (fun q3 => ?_) (fun q3 => ?_)
      · refine r_iincL (v := l1 + 1) [some (.ref l0), some (.int (l1 + 1))] dX6_begin_74 rfl (by decide) rfl rfl ?_
        refine r_goto (tgt := 28) dX6_begin_77 (by decide) ?_
        exact k10 q1 q2 q3
      · refine r_aload_n dX6_begin_54 rfl ?_
        refine r_getR (c := 6) (k := 36) dX6_begin_55 rfl rfl (by decide) fl_RX6_85 (c1) rfl (c11) ?_
        refine r_aload_n dX6_begin_58 rfl ?_
        refine r_get (c := 6) (k := 38) dX6_begin_59 rfl rfl (by decide) fl_RX6_98 (c1) rfl ?_
        refine r_iload_n dX6_begin_62 rfl ?_
        refine r_iastoreJ (Int32.toNatClampNeg (hI h l0 38)) dX6_begin_63 (c12) (c13 q1 q2 q3) rfl ?_
        refine r_aload_n dX6_begin_64 rfl ?_
        refine r_dup dX6_begin_65 rfl ?_
        refine r_get (c := 6) (k := 38) dX6_begin_66 rfl rfl (by decide) fl_RX6_98 (c1) rfl ?_
        refine r_iconst (v := 1) dX6_begin_69 (by decide) ?_
        refine r_iadd dX6_begin_70 ?_
        refine r_putI (c := 6) (k := 38) dX6_begin_71 rfl rfl (by decide) fl_RX6_98 (c1) (Or.inl rfl) (Or.inl rfl) ?_
        refine r_iincL (v := l1 + 1) [some (.ref l0), some (.int (l1 + 1))] dX6_begin_74 rfl (by decide) rfl rfl ?_
        refine r_goto (tgt := 28) dX6_begin_77 (by decide) ?_
        exact k14 q1 q2 q3

set_option maxRecDepth 20000 in
set_option maxHeartbeats 2000000 in
theorem s_X6_flip_0 {G : GG} {nc ns : Nat} {h : PH} {Z : Option Value → PH → Prop} {l0 : Nat} {l1 : Int32}
    (k1 : RR G nc ns m_X6_flip 2 [some (.ref l0), some (.int l1), some (.int l1), none, none] [] h Z) :
    RR G nc ns m_X6_flip 0 [some (.ref l0), some (.int l1), none, none, none] [] h Z := by
  refine r_iload_n dX6_flip_0 rfl ?_
  refine r_istore_nL [some (.ref l0), some (.int l1), some (.int l1), none, none] dX6_flip_1 (by decide) rfl ?_
  exact k1

set_option maxRecDepth 20000 in
set_option maxHeartbeats 2000000 in
theorem s_X6_flip_2 {G : GG} {nc ns : Nat} {h : PH} {Z : Option Value → PH → Prop} {l0 : Nat} {l1 : Int32} {l2 : Int32}
    (k1 : (l2 < 0) → Z none h)
    (c2 : hK h l0 = 16)
    (c3 : (hR h l0 37) ≠ 0)
    (c4 : hK h (hR h l0 37) = 2)
    (c5 : (¬ l2 < 0) → vp_in l2 (hL h (hR h l0 37)))
    (c6 : (hR h l0 32) ≠ 0)
    (c7 : hK h (hR h l0 32) = 2)
    (c8 : (¬ l2 < 0) → vp_in (hI h (hR h l0 37) (Int32.toNatClampNeg l2)) (hL h (hR h l0 32)))
    (c9 : (hR h l0 33) ≠ 0)
    (c10 : hK h (hR h l0 33) = 2)
    (c11 : (¬ l2 < 0) → vp_in l2 (hL h (hR h l0 33)))
    (k12 : (¬ l2 < 0) → RR G nc ns m_X6_flip 2 [some (.ref l0), some (.int l1), some (.int (hI h (hR h l0 32) (Int32.toNatClampNeg (hI h (hR h l0 37) (Int32.toNatClampNeg l2))))), none, none] [] (sI (sI h (hR h l0 32) (Int32.toNatClampNeg (hI h (hR h l0 37) (Int32.toNatClampNeg l2))) l2) (hR h l0 33) (Int32.toNatClampNeg l2) (hI h (hR h l0 37) (Int32.toNatClampNeg l2))) Z) :
    RR G nc ns m_X6_flip 2 [some (.ref l0), some (.int l1), some (.int l2), none, none] [] h Z := by
  refine r_iload_n dX6_flip_2 rfl ?_
  refine r_if_lt 41 dX6_flip_3 (by decide) (fun q1 => ?_) (fun q1 => ?_)
  · exact r_return dX6_flip_41 rfl (k1 q1)
  · refine r_aload_n dX6_flip_6 rfl ?_
    refine r_getR (c := 6) (k := 37) dX6_flip_7 rfl rfl (by decide) fl_RX6_88 (c2) rfl (c3) ?_
    refine r_iload_n dX6_flip_10 rfl ?_
    refine r_ialoadJ (Int32.toNatClampNeg l2) dX6_flip_11 (c4) (c5 q1) rfl ?_
    refine r_istore_nL [some (.ref l0), some (.int l1), some (.int l2), some (.int (hI h (hR h l0 37) (Int32.toNatClampNeg l2))), none] dX6_flip_12 (by decide) rfl ?_
    refine r_aload_n dX6_flip_13 rfl ?_
    refine r_getR (c := 6) (k := 32) dX6_flip_14 rfl rfl (by decide) fl_RX6_73 (c2) rfl (c6) ?_
    refine r_iload_n dX6_flip_17 rfl ?_
    refine r_ialoadJ (Int32.toNatClampNeg (hI h (hR h l0 37) (Int32.toNatClampNeg l2))) dX6_flip_18 (c7) (c8 q1) rfl ?_
    refine r_istoreL [some (.ref l0), some (.int l1), some (.int l2), some (.int (hI h (hR h l0 37) (Int32.toNatClampNeg l2))), some (.int (hI h (hR h l0 32) (Int32.toNatClampNeg (hI h (hR h l0 37) (Int32.toNatClampNeg l2)))))] dX6_flip_19 (by decide) rfl ?_
    refine r_aload_n dX6_flip_21 rfl ?_
    refine r_getR (c := 6) (k := 32) dX6_flip_22 rfl rfl (by decide) fl_RX6_73 (c2) rfl (c6) ?_
    refine r_iload_n dX6_flip_25 rfl ?_
    refine r_iload_n dX6_flip_26 rfl ?_
    refine r_iastoreJ (Int32.toNatClampNeg (hI h (hR h l0 37) (Int32.toNatClampNeg l2))) dX6_flip_27 (c7) (c8 q1) rfl ?_
    refine r_aload_n dX6_flip_28 rfl ?_
    refine r_getR (c := 6) (k := 33) dX6_flip_29 rfl rfl (by decide) fl_RX6_76 (c2) rfl (c9) ?_
    refine r_iload_n dX6_flip_32 rfl ?_
    refine r_iload_n dX6_flip_33 rfl ?_
    refine r_iastoreJ (Int32.toNatClampNeg l2) dX6_flip_34 (c10) (c11 q1) rfl ?_
    refine r_iload dX6_flip_35 rfl ?_
    refine r_istore_nL [some (.ref l0), some (.int l1), some (.int (hI h (hR h l0 32) (Int32.toNatClampNeg (hI h (hR h l0 37) (Int32.toNatClampNeg l2))))), some (.int (hI h (hR h l0 37) (Int32.toNatClampNeg l2))), some (.int (hI h (hR h l0 32) (Int32.toNatClampNeg (hI h (hR h l0 37) (Int32.toNatClampNeg l2)))))] dX6_flip_37 (by decide) rfl ?_
    refine r_goto (tgt := 2) dX6_flip_38 (by decide) ?_
    exact RR.sub (k12 q1) (And.intro rfl (And.intro rfl (And.intro rfl (trivial))))

set_option maxRecDepth 20000 in
set_option maxHeartbeats 2000000 in
theorem s_X6_grow_0 {G : GG} {nc ns : Nat} {h : PH} {Z : Option Value → PH → Prop} {l0 : Nat} {P1 : PH → Prop}
    (e1 : Ev G m_X6_begin [.ref l0] h 0 0 (RV P1))
    (c2 : hK h l0 = 16)
    (k3 : ∀ (h1 : PH), P1 h1 → hN h1 = (hN h) → hS h1 = (hS h) → RR G nc ns m_X6_grow 4 [some (.ref l0), none, none, none] [] h1 Z) :
    RR G nc ns m_X6_grow 0 [some (.ref l0), none, none, none] [] h Z := by
  refine r_aload_n dX6_grow_0 rfl ?_
  refine r_callV (c := 6) (mc := 0) (ms := 0) dX6_grow_1 ck_X6_begin iv_X6_begin sl_X6_begin lk_RX6_101 rfl rfl (c2) (by decide) (by decide) (As := []) rfl rfl (Nat.le_of_ble_eq_true rfl) (Or.inl rfl) (Or.inl rfl) (e1) ?_
  rintro v1 h1 ⟨rfl, z1⟩ n1 t1
  exact k3 h1 z1 n1 t1

set_option maxRecDepth 20000 in
set_option maxHeartbeats 2000000 in
theorem s_X6_grow_4 {G : GG} {nc ns : Nat} {h : PH} {Z : Option Value → PH → Prop} {l0 : Nat}
    (k1 : RR G nc ns m_X6_grow 6 [some (.ref l0), some (.int 0), none, none] [] h Z) :
    RR G nc ns m_X6_grow 4 [some (.ref l0), none, none, none] [] h Z := by
  refine r_iconst (v := 0) dX6_grow_4 (by decide) ?_
  refine r_istore_nL [some (.ref l0), some (.int 0), none, none] dX6_grow_5 (by decide) rfl ?_
  exact k1

set_option maxRecDepth 20000 in
set_option maxHeartbeats 2000000 in
theorem s_X6_grow_6 {G : GG} {nc ns : Nat} {h : PH} {Z : Option Value → PH → Prop} {l0 : Nat} {l1 : Int32}
    (c1 : hK h l0 = 16)
    (k2 : ((hI h l0 38) ≤ l1) → Z (some (.int 0)) h)
    (c3 : (hR h l0 36) ≠ 0)
    (c4 : hK h (hR h l0 36) = 2)
    (c5 : (¬ (hI h l0 38) ≤ l1) → vp_in l1 (hL h (hR h l0 36)))
    (k6 : (¬ (hI h l0 38) ≤ l1) → RR G nc ns m_X6_grow 23 [some (.ref l0), some (.int l1), some (.int (hI h (hR h l0 36) (Int32.toNatClampNeg l1))), some (.int 0)] [] h Z) :
    RR G nc ns m_X6_grow 6 [some (.ref l0), some (.int l1), none, none] [] h Z := by
  refine r_iload_n dX6_grow_6 rfl ?_
  refine r_aload_n dX6_grow_7 rfl ?_
  refine r_get (c := 6) (k := 38) dX6_grow_8 rfl rfl (by decide) fl_RX6_98 (c1) rfl ?_
  refine r_icmp_ge 123 dX6_grow_11 (by decide) (fun q1 => ?_) (fun q1 => ?_)
  · refine r_iconst (v := 0) dX6_grow_123 (by decide) ?_
    exact r_zreturn dX6_grow_124 rfl (by decide) (k2 q1)
  · refine r_aload_n dX6_grow_14 rfl ?_
    refine r_getR (c := 6) (k := 36) dX6_grow_15 rfl rfl (by decide) fl_RX6_85 (c1) rfl (c3) ?_
    refine r_iload_n dX6_grow_18 rfl ?_
    refine r_ialoadJ (Int32.toNatClampNeg l1) dX6_grow_19 (c4) (c5 q1) rfl ?_
    refine r_istore_nL [some (.ref l0), some (.int l1), some (.int (hI h (hR h l0 36) (Int32.toNatClampNeg l1))), none] dX6_grow_20 (by decide) rfl ?_
    refine r_iconst (v := 0) dX6_grow_21 (by decide) ?_
    refine r_istore_nL [some (.ref l0), some (.int l1), some (.int (hI h (hR h l0 36) (Int32.toNatClampNeg l1))), some (.int 0)] dX6_grow_22 (by decide) rfl ?_
    exact k6 q1

set_option maxRecDepth 20000 in
set_option maxHeartbeats 2000000 in
theorem s_X6_grow_23 {G : GG} {nc ns : Nat} {h : PH} {Z : Option Value → PH → Prop} {l0 : Nat} {l1 : Int32} {l2 : Int32} {l3 : Int32} {P1 : PH → Prop}
    (c1 : hK h l0 = 16)
    (k2 : ((hI h l0 29) ≤ l3) → RR G nc ns m_X6_grow 6 [some (.ref l0), some (.int (l1 + 1)), none, none] [] h Z)
    (c3 : (hR h l0 27) ≠ 0)
    (c4 : hK h (hR h l0 27) = 4)
    (c5 : (¬ (hI h l0 29) ≤ l3) → vp_in ((50 * l2) + l3) (hL h (hR h l0 27)))
    (k6 : (¬ (hI h l0 29) ≤ l3) → ((hI h (hR h l0 27) (Int32.toNatClampNeg ((50 * l2) + l3))) = 0) → RR G nc ns m_X6_grow 23 [some (.ref l0), some (.int l1), some (.int l2), some (.int (l3 + 1))] [] h Z)
    (c7 : (hR h l0 31) ≠ 0)
    (c8 : hK h (hR h l0 31) = 4)
    (c9 : (¬ (hI h l0 29) ≤ l3) → (¬ (hI h (hR h l0 27) (Int32.toNatClampNeg ((50 * l2) + l3))) = 0) → vp_in l3 (hL h (hR h l0 31)))
    (k10 : (¬ (hI h l0 29) ≤ l3) → (¬ (hI h (hR h l0 27) (Int32.toNatClampNeg ((50 * l2) + l3))) = 0) → (¬ (hI h (hR h l0 31) (Int32.toNatClampNeg l3)) = 0) → RR G nc ns m_X6_grow 23 [some (.ref l0), some (.int l1), some (.int l2), some (.int (l3 + 1))] [] h Z)
    (c11 : (hR h l0 37) ≠ 0)
    (c12 : hK h (hR h l0 37) = 2)
    (c13 : (¬ (hI h l0 29) ≤ l3) → (¬ (hI h (hR h l0 27) (Int32.toNatClampNeg ((50 * l2) + l3))) = 0) → ((hI h (hR h l0 31) (Int32.toNatClampNeg l3)) = 0) → vp_in l3 (hL h (hR h l0 37)))
    (k14 : (¬ (hI h l0 29) ≤ l3) → (¬ (hI h (hR h l0 27) (Int32.toNatClampNeg ((50 * l2) + l3))) = 0) → ((hI h (hR h l0 31) (Int32.toNatClampNeg l3)) = 0) → (0 ≤ (hI h (hR h l0 37) (Int32.toNatClampNeg l3))) → RR G nc ns m_X6_grow 23 [some (.ref l0), some (.int l1), some (.int l2), some (.int (l3 + 1))] [] h Z)
    (c15 : (hR h l0 33) ≠ 0)
    (c16 : hK h (hR h l0 33) = 2)
    (c17 : (¬ (hI h l0 29) ≤ l3) → (¬ (hI h (hR h l0 27) (Int32.toNatClampNeg ((50 * l2) + l3))) = 0) → ((hI h (hR h l0 31) (Int32.toNatClampNeg l3)) = 0) → (¬ 0 ≤ (hI h (hR h l0 37) (Int32.toNatClampNeg l3))) → vp_in l3 (hL h (hR h l0 33)))
    (c18 : (hR h l0 36) ≠ 0)
    (c19 : hK h (hR h l0 36) = 2)
    (c20 : (¬ (hI h l0 29) ≤ l3) → (¬ (hI h (hR h l0 27) (Int32.toNatClampNeg ((50 * l2) + l3))) = 0) → ((hI h (hR h l0 31) (Int32.toNatClampNeg l3)) = 0) → (¬ 0 ≤ (hI h (hR h l0 37) (Int32.toNatClampNeg l3))) → (0 ≤ (hI (sI h (hR h l0 37) (Int32.toNatClampNeg l3) l2) (hR h l0 33) (Int32.toNatClampNeg l3))) → vp_in (hI (sI h (hR h l0 37) (Int32.toNatClampNeg l3) l2) l0 38) (hL h (hR h l0 36)))
    (k21 : (¬ (hI h l0 29) ≤ l3) → (¬ (hI h (hR h l0 27) (Int32.toNatClampNeg ((50 * l2) + l3))) = 0) → ((hI h (hR h l0 31) (Int32.toNatClampNeg l3)) = 0) → (¬ 0 ≤ (hI h (hR h l0 37) (Int32.toNatClampNeg l3))) → (0 ≤ (hI (sI h (hR h l0 37) (Int32.toNatClampNeg l3) l2) (hR h l0 33) (Int32.toNatClampNeg l3))) → RR G nc ns m_X6_grow 23 [some (.ref l0), some (.int l1), some (.int l2), some (.int (l3 + 1))] [] (sI (sI (sI h (hR h l0 37) (Int32.toNatClampNeg l3) l2) (hR h l0 36) (Int32.toNatClampNeg (hI (sI h (hR h l0 37) (Int32.toNatClampNeg l3) l2) l0 38)) (hI (sI h (hR h l0 37) (Int32.toNatClampNeg l3) l2) (hR h l0 33) (Int32.toNatClampNeg l3))) l0 38 ((hI (sI (sI h (hR h l0 37) (Int32.toNatClampNeg l3) l2) (hR h l0 36) (Int32.toNatClampNeg (hI (sI h (hR h l0 37) (Int32.toNatClampNeg l3) l2) l0 38)) (hI (sI h (hR h l0 37) (Int32.toNatClampNeg l3) l2) (hR h l0 33) (Int32.toNatClampNeg l3))) l0 38) + 1)) Z)
    (e22 : (¬ (hI h l0 29) ≤ l3) → (¬ (hI h (hR h l0 27) (Int32.toNatClampNeg ((50 * l2) + l3))) = 0) → ((hI h (hR h l0 31) (Int32.toNatClampNeg l3)) = 0) → (¬ 0 ≤ (hI h (hR h l0 37) (Int32.toNatClampNeg l3))) → (¬ 0 ≤ (hI (sI h (hR h l0 37) (Int32.toNatClampNeg l3) l2) (hR h l0 33) (Int32.toNatClampNeg l3))) → Ev G m_X6_flip [.ref l0, .int l3] (sI h (hR h l0 37) (Int32.toNatClampNeg l3) l2) 0 0 (RV P1))
    (k23 : (¬ (hI h l0 29) ≤ l3) → (¬ (hI h (hR h l0 27) (Int32.toNatClampNeg ((50 * l2) + l3))) = 0) → ((hI h (hR h l0 31) (Int32.toNatClampNeg l3)) = 0) → (¬ 0 ≤ (hI h (hR h l0 37) (Int32.toNatClampNeg l3))) → (¬ 0 ≤ (hI (sI h (hR h l0 37) (Int32.toNatClampNeg l3) l2) (hR h l0 33) (Int32.toNatClampNeg l3))) → ∀ (h1 : PH), P1 h1 → hN h1 = (hN h) → hS h1 = (hS h) → RR G nc ns m_X6_grow 84 [some (.ref l0), some (.int l1), some (.int l2), some (.int l3)] [] h1 Z) :
    RR G nc ns m_X6_grow 23 [some (.ref l0), some (.int l1), some (.int l2), some (.int l3)] [] h Z := by
  refine r_iload_n dX6_grow_23 rfl ?_
  refine r_aload_n dX6_grow_24 rfl ?_
  refine r_get (c := 6) (k := 29) dX6_grow_25 rfl rfl (by decide) fl_RX6_95 (c1) rfl ?_
  refine r_icmp_ge 117 dX6_grow_28 (by decide) (fun q1 => ?_) (fun q1 => ?_)
  · refine r_iincL (v := l1 + 1) [some (.ref l0), some (.int (l1 + 1)), some (.int l2), some (.int l3)] dX6_grow_117 rfl (by decide) rfl rfl ?_
    refine r_goto (tgt := 6) dX6_grow_120 (by decide) ?_
    exact RR.sub (k2 q1) (And.intro rfl (And.intro rfl (trivial)))
  · refine r_aload_n dX6_grow_31 rfl ?_
    refine r_getR (c := 6) (k := 27) dX6_grow_32 rfl rfl (by decide) fl_RX6_64 (c1) rfl (c3) ?_
    refine r_bipush (v := 50) dX6_grow_35 (by decide) ?_
    refine r_iload_n dX6_grow_37 rfl ?_
    refine r_imul dX6_grow_38 ?_
    refine r_iload_n dX6_grow_39 rfl ?_
    refine r_iadd dX6_grow_40 ?_
    refine r_baloadJ (Int32.toNatClampNeg ((50 * l2) + l3)) dX6_grow_41 (c4) (c5 q1) rfl ?_
    refine r_if_eq 111 dX6_grow_42 (by decide) (fun q2 => ?_) (fun q2 => ?_)
    · refine r_iincL (v := l3 + 1) [some (.ref l0), some (.int l1), some (.int l2), some (.int (l3 + 1))] dX6_grow_111 rfl (by decide) rfl rfl ?_
      refine r_goto (tgt := 23) dX6_grow_114 (by decide) ?_
      exact k6 q1 q2
    · refine r_aload_n dX6_grow_45 rfl ?_
      refine r_getR (c := 6) (k := 31) dX6_grow_46 rfl rfl (by decide) fl_RX6_70 (c1) rfl (c7) ?_
      refine r_iload_n dX6_grow_49 rfl ?_
      refine r_baloadJ (Int32.toNatClampNeg l3) dX6_grow_50 (c8) (c9 q1 q2) rfl ?_
      refine r_if_ne 111 dX6_grow_51 (by decide) (fun q3 => ?_) (fun q3 => ?_)
      · refine r_iincL (v := l3 + 1) [some (.ref l0), some (.int l1), some (.int l2), some (.int (l3 + 1))] dX6_grow_111 rfl (by decide) rfl rfl ?_
        refine r_goto (tgt := 23) dX6_grow_114 (by decide) ?_
        exact k10 q1 q2 q3
      · refine r_aload_n dX6_grow_54 rfl ?_
        refine r_getR (c := 6) (k := 37) dX6_grow_55 rfl rfl (by decide) fl_RX6_88 (c1) rfl (c11) ?_
        refine r_iload_n dX6_grow_58 rfl ?_
        refine r_ialoadJ (Int32.toNatClampNeg l3) dX6_grow_59 (c12) (c13 q1 q2 q3) rfl ?_
        refine r_if_ge 111 dX6_grow_60 (by decide) (fun q4 => ?_) (fun q4 => ?_)
        · refine r_iincL (v := l3 + 1) [some (.ref l0), some (.int l1), some (.int l2), some (.int (l3 + 1))] dX6_grow_111 rfl (by decide) rfl rfl ?_
          refine r_goto (tgt := 23) dX6_grow_114 (by decide) ?_
          exact k14 q1 q2 q3 q4
        · refine r_aload_n dX6_grow_63 rfl ?_
          refine r_getR (c := 6) (k := 37) dX6_grow_64 rfl rfl (by decide) fl_RX6_88 (c1) rfl (c11) ?_
          refine r_iload_n dX6_grow_67 rfl ?_
          refine r_iload_n dX6_grow_68 rfl ?_
          refine r_iastoreJ (Int32.toNatClampNeg l3) dX6_grow_69 (c12) (c13 q1 q2 q3) rfl ?_
          refine r_aload_n dX6_grow_70 rfl ?_
          refine r_getR (c := 6) (k := 33) dX6_grow_71 rfl rfl (by decide) fl_RX6_76 (c1) rfl (c15) ?_
          refine r_iload_n dX6_grow_74 rfl ?_
          refine r_ialoadJ (Int32.toNatClampNeg l3) dX6_grow_75 (c16) (c17 q1 q2 q3 q4) rfl ?_
          refine r_if_ge 86 dX6_grow_76 (by decide) (fun q5 => ?_) (fun q5 => ?_)
          · refine r_aload_n dX6_grow_86 rfl ?_
            refine r_getR (c := 6) (k := 36) dX6_grow_87 rfl rfl (by decide) fl_RX6_85 (c1) rfl (c18) ?_
            refine r_aload_n dX6_grow_90 rfl ?_
            refine r_get (c := 6) (k := 38) dX6_grow_91 rfl rfl (by decide) fl_RX6_98 (c1) rfl ?_
            refine r_aload_n dX6_grow_94 rfl ?_
            refine r_getR (c := 6) (k := 33) dX6_grow_95 rfl rfl (by decide) fl_RX6_76 (c1) rfl (c15) ?_
            refine r_iload_n dX6_grow_98 rfl ?_
            refine r_ialoadJ (Int32.toNatClampNeg l3) dX6_grow_99 (c16) (c17 q1 q2 q3 q4) rfl ?_
            refine r_iastoreJ (Int32.toNatClampNeg (hI (sI h (hR h l0 37) (Int32.toNatClampNeg l3) l2) l0 38)) dX6_grow_100 (c19) (c20 q1 q2 q3 q4 q5) rfl ?_
            refine r_aload_n dX6_grow_101 rfl ?_
            refine r_dup dX6_grow_102 rfl ?_
            refine r_get (c := 6) (k := 38) dX6_grow_103 rfl rfl (by decide) fl_RX6_98 (c1) rfl ?_
            refine r_iconst (v := 1) dX6_grow_106 (by decide) ?_
            refine r_iadd dX6_grow_107 ?_
            refine r_putI (c := 6) (k := 38) dX6_grow_108 rfl rfl (by decide) fl_RX6_98 (c1) (Or.inl rfl) (Or.inl rfl) ?_
            refine r_iincL (v := l3 + 1) [some (.ref l0), some (.int l1), some (.int l2), some (.int (l3 + 1))] dX6_grow_111 rfl (by decide) rfl rfl ?_
            refine r_goto (tgt := 23) dX6_grow_114 (by decide) ?_
            exact k21 q1 q2 q3 q4 q5
          · refine r_aload_n dX6_grow_79 rfl ?_
            refine r_iload_n dX6_grow_80 rfl ?_
            refine r_callV (c := 6) (mc := 0) (ms := 0) dX6_grow_81 ck_X6_flip iv_X6_flip sl_X6_flip lk_RX6_104 rfl rfl (c1) (by decide) (by decide) (As := [.int l3]) rfl rfl (Nat.le_of_ble_eq_true rfl) (Or.inl rfl) (Or.inl rfl) (e22 q1 q2 q3 q4 q5) ?_
            rintro v1 h1 ⟨rfl, z1⟩ n1 t1
            exact k23 q1 q2 q3 q4 q5 h1 z1 n1 t1

set_option maxRecDepth 20000 in
set_option maxHeartbeats 2000000 in
theorem s_X6_grow_84 {G : GG} {nc ns : Nat} {h : PH} {Z : Option Value → PH → Prop} {l0 : Nat} {l1 : Int32} {l2 : Int32} {l3 : Int32}
    (k1 : Z (some (.int 1)) h) :
    RR G nc ns m_X6_grow 84 [some (.ref l0), some (.int l1), some (.int l2), some (.int l3)] [] h Z := by
  refine r_iconst (v := 1) dX6_grow_84 (by decide) ?_
  exact r_zreturn dX6_grow_85 rfl (by decide) (k1)

set_option maxRecDepth 20000 in
set_option maxHeartbeats 2000000 in
theorem s_X6_growAll_0 {G : GG} {nc ns : Nat} {h : PH} {Z : Option Value → PH → Prop} {l0 : Nat}
    (k1 : RR G nc ns m_X6_growAll 2 [some (.ref l0), some (.int 0)] [] h Z) :
    RR G nc ns m_X6_growAll 0 [some (.ref l0), none] [] h Z := by
  refine r_iconst (v := 0) dX6_growAll_0 (by decide) ?_
  refine r_istore_nL [some (.ref l0), some (.int 0)] dX6_growAll_1 (by decide) rfl ?_
  exact k1

set_option maxRecDepth 20000 in
set_option maxHeartbeats 2000000 in
theorem s_X6_growAll_2 {G : GG} {nc ns : Nat} {h : PH} {Z : Option Value → PH → Prop} {l0 : Nat} {l1 : Int32} {P1 : Int32 → PH → Prop}
    (e1 : Ev G m_X6_grow [.ref l0] h 0 0 (RI P1))
    (c2 : hK h l0 = 16)
    (k3 : ∀ (x1 : Int32) (h1 : PH), P1 x1 h1 → hN h1 = (hN h) → hS h1 = (hS h) → RR G nc ns m_X6_growAll 6 [some (.ref l0), some (.int l1)] [.int x1] h1 Z) :
    RR G nc ns m_X6_growAll 2 [some (.ref l0), some (.int l1)] [] h Z := by
  refine r_aload_n dX6_growAll_2 rfl ?_
  refine r_callV (c := 6) (mc := 0) (ms := 0) dX6_growAll_3 ck_X6_grow iv_X6_grow sl_X6_grow lk_RX6_108 rfl rfl (c2) (by decide) (by decide) (As := []) rfl rfl (Nat.le_of_ble_eq_true rfl) (Or.inl rfl) (Or.inl rfl) (e1) ?_
  rintro v1 h1 ⟨x1, rfl, z1⟩ n1 t1
  exact k3 x1 h1 z1 n1 t1

set_option maxRecDepth 20000 in
set_option maxHeartbeats 2000000 in
theorem s_X6_growAll_6 {G : GG} {nc ns : Nat} {h : PH} {Z : Option Value → PH → Prop} {l0 : Nat} {l1 : Int32} {s0 : Int32}
    (k1 : (s0 = 0) → Z (some (.int l1)) h)
    (k2 : (¬ s0 = 0) → RR G nc ns m_X6_growAll 2 [some (.ref l0), some (.int (l1 + 1))] [] h Z) :
    RR G nc ns m_X6_growAll 6 [some (.ref l0), some (.int l1)] [.int s0] h Z := by
  refine r_if_eq 15 dX6_growAll_6 (by decide) (fun q1 => ?_) (fun q1 => ?_)
  · refine r_iload_n dX6_growAll_15 rfl ?_
    exact r_ireturn dX6_growAll_16 rfl (k1 q1)
  · refine r_iincL (v := l1 + 1) [some (.ref l0), some (.int (l1 + 1))] dX6_growAll_9 rfl (by decide) rfl rfl ?_
    refine r_goto (tgt := 2) dX6_growAll_12 (by decide) ?_
    exact k2 q1

set_option maxRecDepth 20000 in
set_option maxHeartbeats 2000000 in
theorem s_X6_keep_0 {G : GG} {nc ns : Nat} {h : PH} {Z : Option Value → PH → Prop} {l0 : Nat}
    (k1 : RR G nc ns m_X6_keep 2 [some (.ref l0), some (.int 0)] [] h Z) :
    RR G nc ns m_X6_keep 0 [some (.ref l0), none] [] h Z := by
  refine r_iconst (v := 0) dX6_keep_0 (by decide) ?_
  refine r_istore_nL [some (.ref l0), some (.int 0)] dX6_keep_1 (by decide) rfl ?_
  exact k1

set_option maxRecDepth 20000 in
set_option maxHeartbeats 2000000 in
theorem s_X6_keep_2 {G : GG} {nc ns : Nat} {h : PH} {Z : Option Value → PH → Prop} {l0 : Nat} {l1 : Int32}
    (k1 : (50 ≤ l1) → Z none h)
    (c2 : hK h l0 = 16)
    (c3 : (hR h l0 34) ≠ 0)
    (c4 : (hR h l0 32) ≠ 0)
    (c5 : hK h (hR h l0 32) = 2)
    (c6 : (¬ 50 ≤ l1) → vp_in l1 (hL h (hR h l0 32)))
    (c7 : hK h (hR h l0 34) = 2)
    (c8 : (¬ 50 ≤ l1) → vp_in l1 (hL h (hR h l0 34)))
    (c9 : (hR h l0 35) ≠ 0)
    (c10 : (hR h l0 33) ≠ 0)
    (c11 : hK h (hR h l0 33) = 2)
    (c12 : (¬ 50 ≤ l1) → vp_in l1 (hL h (hR h l0 33)))
    (c13 : hK h (hR h l0 35) = 2)
    (c14 : (¬ 50 ≤ l1) → vp_in l1 (hL h (hR h l0 35)))
    (k15 : (¬ 50 ≤ l1) → RR G nc ns m_X6_keep 2 [some (.ref l0), some (.int (l1 + 1))] [] (sI (sI h (hR h l0 34) (Int32.toNatClampNeg l1) (hI h (hR h l0 32) (Int32.toNatClampNeg l1))) (hR h l0 35) (Int32.toNatClampNeg l1) (hI (sI h (hR h l0 34) (Int32.toNatClampNeg l1) (hI h (hR h l0 32) (Int32.toNatClampNeg l1))) (hR h l0 33) (Int32.toNatClampNeg l1))) Z) :
    RR G nc ns m_X6_keep 2 [some (.ref l0), some (.int l1)] [] h Z := by
  refine r_iload_n dX6_keep_2 rfl ?_
  refine r_bipush (v := 50) dX6_keep_3 (by decide) ?_
  refine r_icmp_ge 38 dX6_keep_5 (by decide) (fun q1 => ?_) (fun q1 => ?_)
  · exact r_return dX6_keep_38 rfl (k1 q1)
  · refine r_aload_n dX6_keep_8 rfl ?_
    refine r_getR (c := 6) (k := 34) dX6_keep_9 rfl rfl (by decide) fl_RX6_79 (c2) rfl (c3) ?_
    refine r_iload_n dX6_keep_12 rfl ?_
    refine r_aload_n dX6_keep_13 rfl ?_
    refine r_getR (c := 6) (k := 32) dX6_keep_14 rfl rfl (by decide) fl_RX6_73 (c2) rfl (c4) ?_
    refine r_iload_n dX6_keep_17 rfl ?_
    refine r_ialoadJ (Int32.toNatClampNeg l1) dX6_keep_18 (c5) (c6 q1) rfl ?_
    refine r_iastoreJ (Int32.toNatClampNeg l1) dX6_keep_19 (c7) (c8 q1) rfl ?_
    refine r_aload_n dX6_keep_20 rfl ?_
    refine r_getR (c := 6) (k := 35) dX6_keep_21 rfl rfl (by decide) fl_RX6_82 (c2) rfl (c9) ?_
    refine r_iload_n dX6_keep_24 rfl ?_
    refine r_aload_n dX6_keep_25 rfl ?_
    refine r_getR (c := 6) (k := 33) dX6_keep_26 rfl rfl (by decide) fl_RX6_76 (c2) rfl (c10) ?_
    refine r_iload_n dX6_keep_29 rfl ?_
    refine r_ialoadJ (Int32.toNatClampNeg l1) dX6_keep_30 (c11) (c12 q1) rfl ?_
    refine r_iastoreJ (Int32.toNatClampNeg l1) dX6_keep_31 (c13) (c14 q1) rfl ?_
    refine r_iincL (v := l1 + 1) [some (.ref l0), some (.int (l1 + 1))] dX6_keep_32 rfl (by decide) rfl rfl ?_
    refine r_goto (tgt := 2) dX6_keep_35 (by decide) ?_
    exact k15 q1

set_option maxRecDepth 20000 in
set_option maxHeartbeats 2000000 in
theorem s_X6_putBack_0 {G : GG} {nc ns : Nat} {h : PH} {Z : Option Value → PH → Prop} {l0 : Nat}
    (k1 : RR G nc ns m_X6_putBack 2 [some (.ref l0), some (.int 0)] [] h Z) :
    RR G nc ns m_X6_putBack 0 [some (.ref l0), none] [] h Z := by
  refine r_iconst (v := 0) dX6_putBack_0 (by decide) ?_
  refine r_istore_nL [some (.ref l0), some (.int 0)] dX6_putBack_1 (by decide) rfl ?_
  exact k1

set_option maxRecDepth 20000 in
set_option maxHeartbeats 2000000 in
theorem s_X6_putBack_2 {G : GG} {nc ns : Nat} {h : PH} {Z : Option Value → PH → Prop} {l0 : Nat} {l1 : Int32}
    (k1 : (50 ≤ l1) → Z none h)
    (c2 : hK h l0 = 16)
    (c3 : (hR h l0 32) ≠ 0)
    (c4 : (hR h l0 34) ≠ 0)
    (c5 : hK h (hR h l0 34) = 2)
    (c6 : (¬ 50 ≤ l1) → vp_in l1 (hL h (hR h l0 34)))
    (c7 : hK h (hR h l0 32) = 2)
    (c8 : (¬ 50 ≤ l1) → vp_in l1 (hL h (hR h l0 32)))
    (c9 : (hR h l0 33) ≠ 0)
    (c10 : (hR h l0 35) ≠ 0)
    (c11 : hK h (hR h l0 35) = 2)
    (c12 : (¬ 50 ≤ l1) → vp_in l1 (hL h (hR h l0 35)))
    (c13 : hK h (hR h l0 33) = 2)
    (c14 : (¬ 50 ≤ l1) → vp_in l1 (hL h (hR h l0 33)))
    (k15 : (¬ 50 ≤ l1) → RR G nc ns m_X6_putBack 2 [some (.ref l0), some (.int (l1 + 1))] [] (sI (sI h (hR h l0 32) (Int32.toNatClampNeg l1) (hI h (hR h l0 34) (Int32.toNatClampNeg l1))) (hR h l0 33) (Int32.toNatClampNeg l1) (hI (sI h (hR h l0 32) (Int32.toNatClampNeg l1) (hI h (hR h l0 34) (Int32.toNatClampNeg l1))) (hR h l0 35) (Int32.toNatClampNeg l1))) Z) :
    RR G nc ns m_X6_putBack 2 [some (.ref l0), some (.int l1)] [] h Z := by
  refine r_iload_n dX6_putBack_2 rfl ?_
  refine r_bipush (v := 50) dX6_putBack_3 (by decide) ?_
  refine r_icmp_ge 38 dX6_putBack_5 (by decide) (fun q1 => ?_) (fun q1 => ?_)
  · exact r_return dX6_putBack_38 rfl (k1 q1)
  · refine r_aload_n dX6_putBack_8 rfl ?_
    refine r_getR (c := 6) (k := 32) dX6_putBack_9 rfl rfl (by decide) fl_RX6_73 (c2) rfl (c3) ?_
    refine r_iload_n dX6_putBack_12 rfl ?_
    refine r_aload_n dX6_putBack_13 rfl ?_
    refine r_getR (c := 6) (k := 34) dX6_putBack_14 rfl rfl (by decide) fl_RX6_79 (c2) rfl (c4) ?_
    refine r_iload_n dX6_putBack_17 rfl ?_
    refine r_ialoadJ (Int32.toNatClampNeg l1) dX6_putBack_18 (c5) (c6 q1) rfl ?_
    refine r_iastoreJ (Int32.toNatClampNeg l1) dX6_putBack_19 (c7) (c8 q1) rfl ?_
    refine r_aload_n dX6_putBack_20 rfl ?_
    refine r_getR (c := 6) (k := 33) dX6_putBack_21 rfl rfl (by decide) fl_RX6_76 (c2) rfl (c9) ?_
    refine r_iload_n dX6_putBack_24 rfl ?_
    refine r_aload_n dX6_putBack_25 rfl ?_
    refine r_getR (c := 6) (k := 35) dX6_putBack_26 rfl rfl (by decide) fl_RX6_82 (c2) rfl (c10) ?_
    refine r_iload_n dX6_putBack_29 rfl ?_
    refine r_ialoadJ (Int32.toNatClampNeg l1) dX6_putBack_30 (c11) (c12 q1) rfl ?_
    refine r_iastoreJ (Int32.toNatClampNeg l1) dX6_putBack_31 (c13) (c14 q1) rfl ?_
    refine r_iincL (v := l1 + 1) [some (.ref l0), some (.int (l1 + 1))] dX6_putBack_32 rfl (by decide) rfl rfl ?_
    refine r_goto (tgt := 2) dX6_putBack_35 (by decide) ?_
    exact k15 q1

set_option maxRecDepth 20000 in
set_option maxHeartbeats 2000000 in
theorem s_X6_canMiss_0 {G : GG} {nc ns : Nat} {h : PH} {Z : Option Value → PH → Prop} {l0 : Nat} {l1 : Int32} {l2 : Int32} {P1 : PH → Prop} {P2 : PH → Prop}
    (c1 : hK h l0 = 16)
    (c2 : (hR h l0 33) ≠ 0)
    (c3 : hK h (hR h l0 33) = 2)
    (c4 : (l1 = 0) → vp_in l2 (hL h (hR h l0 33)))
    (e5 : (l1 = 0) → (0 ≤ (hI h (hR h l0 33) (Int32.toNatClampNeg l2))) → Ev G m_X6_keep [.ref l0] h 0 0 (RV P1))
    (k6 : (l1 = 0) → (0 ≤ (hI h (hR h l0 33) (Int32.toNatClampNeg l2))) → ∀ (h1 : PH), P1 h1 → hN h1 = (hN h) → hS h1 = (hS h) → RR G nc ns m_X6_canMiss 30 [some (.ref l0), some (.int l1), some (.int l2), some (.int (hI h (hR h l0 33) (Int32.toNatClampNeg l2))), none] [] h1 Z)
    (k7 : (l1 = 0) → (¬ 0 ≤ (hI h (hR h l0 33) (Int32.toNatClampNeg l2))) → Z (some (.int 1)) h)
    (c8 : (hR h l0 32) ≠ 0)
    (c9 : hK h (hR h l0 32) = 2)
    (c10 : (¬ l1 = 0) → vp_in l2 (hL h (hR h l0 32)))
    (e11 : (¬ l1 = 0) → (0 ≤ (hI h (hR h l0 32) (Int32.toNatClampNeg l2))) → Ev G m_X6_keep [.ref l0] h 0 0 (RV P2))
    (k12 : (¬ l1 = 0) → (0 ≤ (hI h (hR h l0 32) (Int32.toNatClampNeg l2))) → ∀ (h2 : PH), P2 h2 → hN h2 = (hN h) → hS h2 = (hS h) → RR G nc ns m_X6_canMiss 30 [some (.ref l0), some (.int l1), some (.int l2), some (.int (hI h (hR h l0 32) (Int32.toNatClampNeg l2))), none] [] h2 Z)
    (k13 : (¬ l1 = 0) → (¬ 0 ≤ (hI h (hR h l0 32) (Int32.toNatClampNeg l2))) → Z (some (.int 1)) h) :
    RR G nc ns m_X6_canMiss 0 [some (.ref l0), some (.int l1), some (.int l2), none, none] [] h Z := by
  refine r_iload_n dX6_canMiss_0 rfl ?_
  refine r_if_eq 13 dX6_canMiss_1 (by decide) (fun q1 => ?_) (fun q1 => ?_)
  · refine r_aload_n dX6_canMiss_13 rfl ?_
    refine r_getR (c := 6) (k := 33) dX6_canMiss_14 rfl rfl (by decide) fl_RX6_76 (c1) rfl (c2) ?_
    refine r_iload_n dX6_canMiss_17 rfl ?_
    refine r_ialoadJ (Int32.toNatClampNeg l2) dX6_canMiss_18 (c3) (c4 q1) rfl ?_
    refine r_istore_nL [some (.ref l0), some (.int l1), some (.int l2), some (.int (hI h (hR h l0 33) (Int32.toNatClampNeg l2))), none] dX6_canMiss_19 (by decide) rfl ?_
    refine r_iload_n dX6_canMiss_20 rfl ?_
    refine r_if_ge 26 dX6_canMiss_21 (by decide) (fun q2 => ?_) (fun q2 => ?_)
    · refine r_aload_n dX6_canMiss_26 rfl ?_
      refine r_callV (c := 6) (mc := 0) (ms := 0) dX6_canMiss_27 ck_X6_keep iv_X6_keep sl_X6_keep lk_RX6_112 rfl rfl (c1) (by decide) (by decide) (As := []) rfl rfl (Nat.le_of_ble_eq_true rfl) (Or.inl rfl) (Or.inl rfl) (e5 q1 q2) ?_
      rintro v1 h1 ⟨rfl, z1⟩ n1 t1
      exact k6 q1 q2 h1 z1 n1 t1
    · refine r_iconst (v := 1) dX6_canMiss_24 (by decide) ?_
      exact r_zreturn dX6_canMiss_25 rfl (by decide) (k7 q1 q2)
  · refine r_aload_n dX6_canMiss_4 rfl ?_
    refine r_getR (c := 6) (k := 32) dX6_canMiss_5 rfl rfl (by decide) fl_RX6_73 (c1) rfl (c8) ?_
    refine r_iload_n dX6_canMiss_8 rfl ?_
    refine r_ialoadJ (Int32.toNatClampNeg l2) dX6_canMiss_9 (c9) (c10 q1) rfl ?_
    refine r_goto (tgt := 19) dX6_canMiss_10 (by decide) ?_
    refine r_istore_nL [some (.ref l0), some (.int l1), some (.int l2), some (.int (hI h (hR h l0 32) (Int32.toNatClampNeg l2))), none] dX6_canMiss_19 (by decide) rfl ?_
    refine r_iload_n dX6_canMiss_20 rfl ?_
    refine r_if_ge 26 dX6_canMiss_21 (by decide) (fun q3 => ?_) (fun q3 => ?_)
    · refine r_aload_n dX6_canMiss_26 rfl ?_
      refine r_callV (c := 6) (mc := 0) (ms := 0) dX6_canMiss_27 ck_X6_keep iv_X6_keep sl_X6_keep lk_RX6_112 rfl rfl (c1) (by decide) (by decide) (As := []) rfl rfl (Nat.le_of_ble_eq_true rfl) (Or.inl rfl) (Or.inl rfl) (e11 q1 q3) ?_
      rintro v2 h2 ⟨rfl, z2⟩ n2 t2
      exact k12 q1 q3 h2 z2 n2 t2
    · refine r_iconst (v := 1) dX6_canMiss_24 (by decide) ?_
      exact r_zreturn dX6_canMiss_25 rfl (by decide) (k13 q1 q3)

set_option maxRecDepth 20000 in
set_option maxHeartbeats 2000000 in
theorem s_X6_canMiss_30 {G : GG} {nc ns : Nat} {h : PH} {Z : Option Value → PH → Prop} {l0 : Nat} {l1 : Int32} {l2 : Int32} {l3 : Int32} {P1 : Int32 → PH → Prop} {P2 : Int32 → PH → Prop}
    (c1 : hK h l0 = 16)
    (c2 : (hR h l0 33) ≠ 0)
    (c3 : hK h (hR h l0 33) = 2)
    (c4 : (l1 = 0) → vp_in l2 (hL h (hR h l0 33)))
    (c5 : (hR h l0 32) ≠ 0)
    (c6 : hK h (hR h l0 32) = 2)
    (c7 : (l1 = 0) → vp_in l3 (hL h (hR h l0 32)))
    (c8 : (hR h l0 31) ≠ 0)
    (c9 : hK h (hR h l0 31) = 4)
    (c10 : (l1 = 0) → vp_in l2 (hL h (hR h l0 31)))
    (e11 : (l1 = 0) → Ev G m_X6_grow [.ref l0] (sI (sI (sI h (hR h l0 33) (Int32.toNatClampNeg l2) (-1)) (hR h l0 32) (Int32.toNatClampNeg l3) (-1)) (hR h l0 31) (Int32.toNatClampNeg l2) 1) 0 0 (RI P1))
    (k12 : (l1 = 0) → ∀ (x1 : Int32) (h1 : PH), P1 x1 h1 → hN h1 = (hN h) → hS h1 = (hS h) → RR G nc ns m_X6_canMiss 83 [some (.ref l0), some (.int l1), some (.int l2), some (.int l3), none] [.int x1] h1 Z)
    (c13 : (¬ l1 = 0) → vp_in l2 (hL h (hR h l0 32)))
    (c14 : (¬ l1 = 0) → vp_in l3 (hL h (hR h l0 33)))
    (c15 : (hR h l0 30) ≠ 0)
    (c16 : hK h (hR h l0 30) = 4)
    (c17 : (¬ l1 = 0) → vp_in l2 (hL h (hR h l0 30)))
    (e18 : (¬ l1 = 0) → Ev G m_X6_grow [.ref l0] (sI (sI (sI h (hR h l0 32) (Int32.toNatClampNeg l2) (-1)) (hR h l0 33) (Int32.toNatClampNeg l3) (-1)) (hR h l0 30) (Int32.toNatClampNeg l2) 1) 0 0 (RI P2))
    (k19 : (¬ l1 = 0) → ∀ (x2 : Int32) (h2 : PH), P2 x2 h2 → hN h2 = (hN h) → hS h2 = (hS h) → RR G nc ns m_X6_canMiss 83 [some (.ref l0), some (.int l1), some (.int l2), some (.int l3), none] [.int x2] h2 Z) :
    RR G nc ns m_X6_canMiss 30 [some (.ref l0), some (.int l1), some (.int l2), some (.int l3), none] [] h Z := by
  refine r_iload_n dX6_canMiss_30 rfl ?_
  refine r_if_eq 58 dX6_canMiss_31 (by decide) (fun q1 => ?_) (fun q1 => ?_)
  · refine r_aload_n dX6_canMiss_58 rfl ?_
    refine r_getR (c := 6) (k := 33) dX6_canMiss_59 rfl rfl (by decide) fl_RX6_76 (c1) rfl (c2) ?_
    refine r_iload_n dX6_canMiss_62 rfl ?_
    refine r_iconst (v := (-1)) dX6_canMiss_63 (by decide) ?_
    refine r_iastoreJ (Int32.toNatClampNeg l2) dX6_canMiss_64 (c3) (c4 q1) rfl ?_
    refine r_aload_n dX6_canMiss_65 rfl ?_
    refine r_getR (c := 6) (k := 32) dX6_canMiss_66 rfl rfl (by decide) fl_RX6_73 (c1) rfl (c5) ?_
    refine r_iload_n dX6_canMiss_69 rfl ?_
    refine r_iconst (v := (-1)) dX6_canMiss_70 (by decide) ?_
    refine r_iastoreJ (Int32.toNatClampNeg l3) dX6_canMiss_71 (c6) (c7 q1) rfl ?_
    refine r_aload_n dX6_canMiss_72 rfl ?_
    refine r_getR (c := 6) (k := 31) dX6_canMiss_73 rfl rfl (by decide) fl_RX6_70 (c1) rfl (c8) ?_
    refine r_iload_n dX6_canMiss_76 rfl ?_
    refine r_iconst (v := 1) dX6_canMiss_77 (by decide) ?_
    refine r_bastoreJ (Int32.toNatClampNeg l2) dX6_canMiss_78 (c9) (c10 q1) rfl (by decide) ?_
    refine r_aload_n dX6_canMiss_79 rfl ?_
    refine r_callV (c := 6) (mc := 0) (ms := 0) dX6_canMiss_80 ck_X6_grow iv_X6_grow sl_X6_grow lk_RX6_108 rfl rfl (c1) (by decide) (by decide) (As := []) rfl rfl (Nat.le_of_ble_eq_true rfl) (Or.inl rfl) (Or.inl rfl) (e11 q1) ?_
    rintro v1 h1 ⟨x1, rfl, z1⟩ n1 t1
    exact k12 q1 x1 h1 z1 n1 t1
  · refine r_aload_n dX6_canMiss_34 rfl ?_
    refine r_getR (c := 6) (k := 32) dX6_canMiss_35 rfl rfl (by decide) fl_RX6_73 (c1) rfl (c5) ?_
    refine r_iload_n dX6_canMiss_38 rfl ?_
    refine r_iconst (v := (-1)) dX6_canMiss_39 (by decide) ?_
    refine r_iastoreJ (Int32.toNatClampNeg l2) dX6_canMiss_40 (c6) (c13 q1) rfl ?_
    refine r_aload_n dX6_canMiss_41 rfl ?_
    refine r_getR (c := 6) (k := 33) dX6_canMiss_42 rfl rfl (by decide) fl_RX6_76 (c1) rfl (c2) ?_
    refine r_iload_n dX6_canMiss_45 rfl ?_
    refine r_iconst (v := (-1)) dX6_canMiss_46 (by decide) ?_
    refine r_iastoreJ (Int32.toNatClampNeg l3) dX6_canMiss_47 (c3) (c14 q1) rfl ?_
    refine r_aload_n dX6_canMiss_48 rfl ?_
    refine r_getR (c := 6) (k := 30) dX6_canMiss_49 rfl rfl (by decide) fl_RX6_67 (c1) rfl (c15) ?_
    refine r_iload_n dX6_canMiss_52 rfl ?_
    refine r_iconst (v := 1) dX6_canMiss_53 (by decide) ?_
    refine r_bastoreJ (Int32.toNatClampNeg l2) dX6_canMiss_54 (c16) (c17 q1) rfl (by decide) ?_
    refine r_goto (tgt := 79) dX6_canMiss_55 (by decide) ?_
    refine r_aload_n dX6_canMiss_79 rfl ?_
    refine r_callV (c := 6) (mc := 0) (ms := 0) dX6_canMiss_80 ck_X6_grow iv_X6_grow sl_X6_grow lk_RX6_108 rfl rfl (c1) (by decide) (by decide) (As := []) rfl rfl (Nat.le_of_ble_eq_true rfl) (Or.inl rfl) (Or.inl rfl) (e18 q1) ?_
    rintro v2 h2 ⟨x2, rfl, z2⟩ n2 t2
    exact k19 q1 x2 h2 z2 n2 t2

set_option maxRecDepth 20000 in
set_option maxHeartbeats 2000000 in
theorem s_X6_canMiss_83 {G : GG} {nc ns : Nat} {h : PH} {Z : Option Value → PH → Prop} {l0 : Nat} {l1 : Int32} {l2 : Int32} {l3 : Int32} {s0 : Int32} {P1 : PH → Prop} {P2 : PH → Prop} {P3 : PH → Prop} {P4 : PH → Prop}
    (c1 : hK h l0 = 16)
    (c2 : (hR h l0 30) ≠ 0)
    (c3 : hK h (hR h l0 30) = 4)
    (c4 : (l1 = 0) → vp_in l2 (hL h (hR h l0 30)))
    (c5 : (l1 = 0) → ((hI h (hR h l0 30) (Int32.toNatClampNeg l2)) = 0 ∨ (hI h (hR h l0 30) (Int32.toNatClampNeg l2)) = 1))
    (c6 : (hR h l0 31) ≠ 0)
    (c7 : hK h (hR h l0 31) = 4)
    (c8 : (l1 = 0) → (l1 = 0) → vp_in l2 (hL h (hR h l0 31)))
    (e9 : (l1 = 0) → (l1 = 0) → Ev G m_X6_putBack [.ref l0] (sI (sI h (hR h l0 30) (Int32.toNatClampNeg l2) (hI h (hR h l0 30) (Int32.toNatClampNeg l2))) (hR h l0 31) (Int32.toNatClampNeg l2) 0) 0 0 (RV P1))
    (k10 : (l1 = 0) → (l1 = 0) → ∀ (h1 : PH), P1 h1 → hN h1 = (hN h) → hS h1 = (hS h) → RR G nc ns m_X6_canMiss 129 [some (.ref l0), some (.int l1), some (.int l2), some (.int l3), some (.int s0)] [] h1 Z)
    (c11 : (l1 = 0) → (¬ l1 = 0) → vp_in l2 (hL h (hR h l0 31)))
    (c12 : (l1 = 0) → (¬ l1 = 0) → vp_in l2 (hL h (hR h l0 31)))
    (c13 : (l1 = 0) → (¬ l1 = 0) → ((hI (sI h (hR h l0 30) (Int32.toNatClampNeg l2) (hI h (hR h l0 30) (Int32.toNatClampNeg l2))) (hR h l0 31) (Int32.toNatClampNeg l2)) = 0 ∨ (hI (sI h (hR h l0 30) (Int32.toNatClampNeg l2) (hI h (hR h l0 30) (Int32.toNatClampNeg l2))) (hR h l0 31) (Int32.toNatClampNeg l2)) = 1))
    (e14 : (l1 = 0) → (¬ l1 = 0) → Ev G m_X6_putBack [.ref l0] (sI (sI h (hR h l0 30) (Int32.toNatClampNeg l2) (hI h (hR h l0 30) (Int32.toNatClampNeg l2))) (hR h l0 31) (Int32.toNatClampNeg l2) (hI (sI h (hR h l0 30) (Int32.toNatClampNeg l2) (hI h (hR h l0 30) (Int32.toNatClampNeg l2))) (hR h l0 31) (Int32.toNatClampNeg l2))) 0 0 (RV P2))
    (k15 : (l1 = 0) → (¬ l1 = 0) → ∀ (h2 : PH), P2 h2 → hN h2 = (hN h) → hS h2 = (hS h) → RR G nc ns m_X6_canMiss 129 [some (.ref l0), some (.int l1), some (.int l2), some (.int l3), some (.int s0)] [] h2 Z)
    (c16 : (¬ l1 = 0) → vp_in l2 (hL h (hR h l0 30)))
    (c17 : (¬ l1 = 0) → (l1 = 0) → vp_in l2 (hL h (hR h l0 31)))
    (e18 : (¬ l1 = 0) → (l1 = 0) → Ev G m_X6_putBack [.ref l0] (sI (sI h (hR h l0 30) (Int32.toNatClampNeg l2) 0) (hR h l0 31) (Int32.toNatClampNeg l2) 0) 0 0 (RV P3))
    (k19 : (¬ l1 = 0) → (l1 = 0) → ∀ (h3 : PH), P3 h3 → hN h3 = (hN h) → hS h3 = (hS h) → RR G nc ns m_X6_canMiss 129 [some (.ref l0), some (.int l1), some (.int l2), some (.int l3), some (.int s0)] [] h3 Z)
    (c20 : (¬ l1 = 0) → (¬ l1 = 0) → vp_in l2 (hL h (hR h l0 31)))
    (c21 : (¬ l1 = 0) → (¬ l1 = 0) → vp_in l2 (hL h (hR h l0 31)))
    (c22 : (¬ l1 = 0) → (¬ l1 = 0) → ((hI (sI h (hR h l0 30) (Int32.toNatClampNeg l2) 0) (hR h l0 31) (Int32.toNatClampNeg l2)) = 0 ∨ (hI (sI h (hR h l0 30) (Int32.toNatClampNeg l2) 0) (hR h l0 31) (Int32.toNatClampNeg l2)) = 1))
    (e23 : (¬ l1 = 0) → (¬ l1 = 0) → Ev G m_X6_putBack [.ref l0] (sI (sI h (hR h l0 30) (Int32.toNatClampNeg l2) 0) (hR h l0 31) (Int32.toNatClampNeg l2) (hI (sI h (hR h l0 30) (Int32.toNatClampNeg l2) 0) (hR h l0 31) (Int32.toNatClampNeg l2))) 0 0 (RV P4))
    (k24 : (¬ l1 = 0) → (¬ l1 = 0) → ∀ (h4 : PH), P4 h4 → hN h4 = (hN h) → hS h4 = (hS h) → RR G nc ns m_X6_canMiss 129 [some (.ref l0), some (.int l1), some (.int l2), some (.int l3), some (.int s0)] [] h4 Z) :
    RR G nc ns m_X6_canMiss 83 [some (.ref l0), some (.int l1), some (.int l2), some (.int l3), none] [.int s0] h Z := by
  refine r_istoreL [some (.ref l0), some (.int l1), some (.int l2), some (.int l3), some (.int s0)] dX6_canMiss_83 (by decide) rfl ?_
  refine r_aload_n dX6_canMiss_85 rfl ?_
  refine r_getR (c := 6) (k := 30) dX6_canMiss_86 rfl rfl (by decide) fl_RX6_67 (c1) rfl (c2) ?_
  refine r_iload_n dX6_canMiss_89 rfl ?_
  refine r_iload_n dX6_canMiss_90 rfl ?_
  refine r_if_eq 98 dX6_canMiss_91 (by decide) (fun q1 => ?_) (fun q1 => ?_)
  · refine r_aload_n dX6_canMiss_98 rfl ?_
    refine r_getR (c := 6) (k := 30) dX6_canMiss_99 rfl rfl (by decide) fl_RX6_67 (c1) rfl (c2) ?_
    refine r_iload_n dX6_canMiss_102 rfl ?_
    refine r_baloadJ (Int32.toNatClampNeg l2) dX6_canMiss_103 (c3) (c4 q1) rfl ?_
    refine r_bastoreJ (Int32.toNatClampNeg l2) dX6_canMiss_104 (c3) (c4 q1) rfl (c5 q1) ?_
    refine r_aload_n dX6_canMiss_105 rfl ?_
    refine r_getR (c := 6) (k := 31) dX6_canMiss_106 rfl rfl (by decide) fl_RX6_70 (c1) rfl (c6) ?_
    refine r_iload_n dX6_canMiss_109 rfl ?_
    refine r_iload_n dX6_canMiss_110 rfl ?_
    refine r_if_eq 123 dX6_canMiss_111 (by decide) (fun q2 => ?_) (fun q2 => ?_)
    · refine r_iconst (v := 0) dX6_canMiss_123 (by decide) ?_
      refine r_bastoreJ (Int32.toNatClampNeg l2) dX6_canMiss_124 (c7) (c8 q1 q2) rfl (by decide) ?_
      refine r_aload_n dX6_canMiss_125 rfl ?_
      refine r_callV (c := 6) (mc := 0) (ms := 0) dX6_canMiss_126 ck_X6_putBack iv_X6_putBack sl_X6_putBack lk_RX6_115 rfl rfl (c1) (by decide) (by decide) (As := []) rfl rfl (Nat.le_of_ble_eq_true rfl) (Or.inl rfl) (Or.inl rfl) (e9 q1 q2) ?_
      rintro v1 h1 ⟨rfl, z1⟩ n1 t1
      exact k10 q1 q2 h1 z1 n1 t1
    · refine r_aload_n dX6_canMiss_114 rfl ?_
      refine r_getR (c := 6) (k := 31) dX6_canMiss_115 rfl rfl (by decide) fl_RX6_70 (c1) rfl (c6) ?_
      refine r_iload_n dX6_canMiss_118 rfl ?_
      refine r_baloadJ (Int32.toNatClampNeg l2) dX6_canMiss_119 (c7) (c11 q1 q2) rfl ?_
      refine r_goto (tgt := 124) dX6_canMiss_120 (by decide) ?_
      refine r_bastoreJ (Int32.toNatClampNeg l2) dX6_canMiss_124 (c7) (c12 q1 q2) rfl (c13 q1 q2) ?_
      refine r_aload_n dX6_canMiss_125 rfl ?_
      refine r_callV (c := 6) (mc := 0) (ms := 0) dX6_canMiss_126 ck_X6_putBack iv_X6_putBack sl_X6_putBack lk_RX6_115 rfl rfl (c1) (by decide) (by decide) (As := []) rfl rfl (Nat.le_of_ble_eq_true rfl) (Or.inl rfl) (Or.inl rfl) (e14 q1 q2) ?_
      rintro v2 h2 ⟨rfl, z2⟩ n2 t2
      exact k15 q1 q2 h2 z2 n2 t2
  · refine r_iconst (v := 0) dX6_canMiss_94 (by decide) ?_
    refine r_goto (tgt := 104) dX6_canMiss_95 (by decide) ?_
    refine r_bastoreJ (Int32.toNatClampNeg l2) dX6_canMiss_104 (c3) (c16 q1) rfl (by decide) ?_
    refine r_aload_n dX6_canMiss_105 rfl ?_
    refine r_getR (c := 6) (k := 31) dX6_canMiss_106 rfl rfl (by decide) fl_RX6_70 (c1) rfl (c6) ?_
    refine r_iload_n dX6_canMiss_109 rfl ?_
    refine r_iload_n dX6_canMiss_110 rfl ?_
    refine r_if_eq 123 dX6_canMiss_111 (by decide) (fun q3 => ?_) (fun q3 => ?_)
    · refine r_iconst (v := 0) dX6_canMiss_123 (by decide) ?_
      refine r_bastoreJ (Int32.toNatClampNeg l2) dX6_canMiss_124 (c7) (c17 q1 q3) rfl (by decide) ?_
      refine r_aload_n dX6_canMiss_125 rfl ?_
      refine r_callV (c := 6) (mc := 0) (ms := 0) dX6_canMiss_126 ck_X6_putBack iv_X6_putBack sl_X6_putBack lk_RX6_115 rfl rfl (c1) (by decide) (by decide) (As := []) rfl rfl (Nat.le_of_ble_eq_true rfl) (Or.inl rfl) (Or.inl rfl) (e18 q1 q3) ?_
      rintro v3 h3 ⟨rfl, z3⟩ n3 t3
      exact k19 q1 q3 h3 z3 n3 t3
    · refine r_aload_n dX6_canMiss_114 rfl ?_
      refine r_getR (c := 6) (k := 31) dX6_canMiss_115 rfl rfl (by decide) fl_RX6_70 (c1) rfl (c6) ?_
      refine r_iload_n dX6_canMiss_118 rfl ?_
      refine r_baloadJ (Int32.toNatClampNeg l2) dX6_canMiss_119 (c7) (c20 q1 q3) rfl ?_
      refine r_goto (tgt := 124) dX6_canMiss_120 (by decide) ?_
      refine r_bastoreJ (Int32.toNatClampNeg l2) dX6_canMiss_124 (c7) (c21 q1 q3) rfl (c22 q1 q3) ?_
      refine r_aload_n dX6_canMiss_125 rfl ?_
      refine r_callV (c := 6) (mc := 0) (ms := 0) dX6_canMiss_126 ck_X6_putBack iv_X6_putBack sl_X6_putBack lk_RX6_115 rfl rfl (c1) (by decide) (by decide) (As := []) rfl rfl (Nat.le_of_ble_eq_true rfl) (Or.inl rfl) (Or.inl rfl) (e23 q1 q3) ?_
      rintro v4 h4 ⟨rfl, z4⟩ n4 t4
      exact k24 q1 q3 h4 z4 n4 t4

set_option maxRecDepth 20000 in
set_option maxHeartbeats 2000000 in
theorem s_X6_canMiss_129 {G : GG} {nc ns : Nat} {h : PH} {Z : Option Value → PH → Prop} {l0 : Nat} {l1 : Int32} {l2 : Int32} {l3 : Int32} {l4 : Int32}
    (k1 : Z (some (.int l4)) h)
    (c2 : (l4 = 0 ∨ l4 = 1)) :
    RR G nc ns m_X6_canMiss 129 [some (.ref l0), some (.int l1), some (.int l2), some (.int l3), some (.int l4)] [] h Z := by
  refine r_iload dX6_canMiss_129 rfl ?_
  exact r_zreturn dX6_canMiss_131 rfl (c2) (k1)

set_option maxRecDepth 20000 in
set_option maxHeartbeats 2000000 in
theorem s_X6_force_0 {G : GG} {nc ns : Nat} {h : PH} {Z : Option Value → PH → Prop} {l0 : Nat} {l1 : Int32} {l2 : Int32} {P1 : PH → Prop}
    (c1 : hK h l0 = 16)
    (c2 : (hR h l0 32) ≠ 0)
    (c3 : hK h (hR h l0 32) = 2)
    (c4 : vp_in l1 (hL h (hR h l0 32)))
    (e5 : (¬ (hI h (hR h l0 32) (Int32.toNatClampNeg l1)) = l2) → Ev G m_X6_keep [.ref l0] h 0 0 (RV P1))
    (k6 : (¬ (hI h (hR h l0 32) (Int32.toNatClampNeg l1)) = l2) → ∀ (h1 : PH), P1 h1 → hN h1 = (hN h) → hS h1 = (hS h) → RR G nc ns m_X6_force 16 [some (.ref l0), some (.int l1), some (.int l2), none, none] [] h1 Z)
    (k7 : ((hI h (hR h l0 32) (Int32.toNatClampNeg l1)) = l2) → Z (some (.int 1)) h) :
    RR G nc ns m_X6_force 0 [some (.ref l0), some (.int l1), some (.int l2), none, none] [] h Z := by
  refine r_aload_n dX6_force_0 rfl ?_
  refine r_getR (c := 6) (k := 32) dX6_force_1 rfl rfl (by decide) fl_RX6_73 (c1) rfl (c2) ?_
  refine r_iload_n dX6_force_4 rfl ?_
  refine r_ialoadJ (Int32.toNatClampNeg l1) dX6_force_5 (c3) (c4) rfl ?_
  refine r_iload_n dX6_force_6 rfl ?_
  refine r_icmp_ne 12 dX6_force_7 (by decide) (fun q1 => ?_) (fun q1 => ?_)
  · refine r_aload_n dX6_force_12 rfl ?_
    refine r_callV (c := 6) (mc := 0) (ms := 0) dX6_force_13 ck_X6_keep iv_X6_keep sl_X6_keep lk_RX6_112 rfl rfl (c1) (by decide) (by decide) (As := []) rfl rfl (Nat.le_of_ble_eq_true rfl) (Or.inl rfl) (Or.inl rfl) (e5 q1) ?_
    rintro v1 h1 ⟨rfl, z1⟩ n1 t1
    exact k6 q1 h1 z1 n1 t1
  · refine r_iconst (v := 1) dX6_force_10 (by decide) ?_
    exact r_zreturn dX6_force_11 rfl (by decide) (k7 q1)

set_option maxRecDepth 20000 in
set_option maxHeartbeats 2000000 in
theorem s_X6_force_16 {G : GG} {nc ns : Nat} {h : PH} {Z : Option Value → PH → Prop} {l0 : Nat} {l1 : Int32} {l2 : Int32} {P1 : Int32 → PH → Prop} {P2 : Int32 → PH → Prop}
    (c1 : hK h l0 = 16)
    (c2 : (hR h l0 32) ≠ 0)
    (c3 : hK h (hR h l0 32) = 2)
    (c4 : vp_in l1 (hL h (hR h l0 32)))
    (c5 : (hR h l0 33) ≠ 0)
    (c6 : hK h (hR h l0 33) = 2)
    (c7 : ((hI h (hR h l0 32) (Int32.toNatClampNeg l1)) < 0) → vp_in l2 (hL h (hR h l0 33)))
    (c8 : (hR h l0 30) ≠ 0)
    (c9 : hK h (hR h l0 30) = 4)
    (c10 : ((hI h (hR h l0 32) (Int32.toNatClampNeg l1)) < 0) → ((hI h (hR h l0 33) (Int32.toNatClampNeg l2)) < 0) → vp_in l1 (hL h (hR h l0 30)))
    (c11 : (hR h l0 31) ≠ 0)
    (c12 : hK h (hR h l0 31) = 4)
    (c13 : ((hI h (hR h l0 32) (Int32.toNatClampNeg l1)) < 0) → ((hI h (hR h l0 33) (Int32.toNatClampNeg l2)) < 0) → vp_in l2 (hL h (hR h l0 31)))
    (e14 : ((hI h (hR h l0 32) (Int32.toNatClampNeg l1)) < 0) → ((hI h (hR h l0 33) (Int32.toNatClampNeg l2)) < 0) → Ev G m_X6_grow [.ref l0] (sI (sI (sI (sI h (hR h l0 32) (Int32.toNatClampNeg l1) l2) (hR h l0 33) (Int32.toNatClampNeg l2) l1) (hR h l0 30) (Int32.toNatClampNeg l1) 1) (hR h l0 31) (Int32.toNatClampNeg l2) 1) 0 0 (RI P1))
    (k15 : ((hI h (hR h l0 32) (Int32.toNatClampNeg l1)) < 0) → ((hI h (hR h l0 33) (Int32.toNatClampNeg l2)) < 0) → ∀ (x1 : Int32) (h1 : PH), P1 x1 h1 → hN h1 = (hN h) → hS h1 = (hS h) → RR G nc ns m_X6_force 102 [some (.ref l0), some (.int l1), some (.int l2), some (.int (-1)), none] [.int x1] h1 Z)
    (c16 : ((hI h (hR h l0 32) (Int32.toNatClampNeg l1)) < 0) → (¬ (hI h (hR h l0 33) (Int32.toNatClampNeg l2)) < 0) → vp_in (hI h (hR h l0 33) (Int32.toNatClampNeg l2)) (hL h (hR h l0 32)))
    (c17 : ((hI h (hR h l0 32) (Int32.toNatClampNeg l1)) < 0) → (¬ (hI h (hR h l0 33) (Int32.toNatClampNeg l2)) < 0) → vp_in l1 (hL h (hR h l0 30)))
    (c18 : ((hI h (hR h l0 32) (Int32.toNatClampNeg l1)) < 0) → (¬ (hI h (hR h l0 33) (Int32.toNatClampNeg l2)) < 0) → vp_in l2 (hL h (hR h l0 31)))
    (c19 : ((hI h (hR h l0 32) (Int32.toNatClampNeg l1)) < 0) → (¬ (hI h (hR h l0 33) (Int32.toNatClampNeg l2)) < 0) → vp_in l1 (hL h (hR h l0 30)))
    (c20 : ((hI h (hR h l0 32) (Int32.toNatClampNeg l1)) < 0) → (¬ (hI h (hR h l0 33) (Int32.toNatClampNeg l2)) < 0) → vp_in l2 (hL h (hR h l0 31)))
    (k21 : ((hI h (hR h l0 32) (Int32.toNatClampNeg l1)) < 0) → (¬ (hI h (hR h l0 33) (Int32.toNatClampNeg l2)) < 0) → RR G nc ns m_X6_force 135 [some (.ref l0), some (.int l1), some (.int l2), some (.int 0), some (.int 1)] [] (sI (sI (sI (sI (sI (sI (sI h (hR h l0 32) (Int32.toNatClampNeg (hI h (hR h l0 33) (Int32.toNatClampNeg l2))) (-1)) (hR h l0 32) (Int32.toNatClampNeg l1) l2) (hR h l0 33) (Int32.toNatClampNeg l2) l1) (hR h l0 30) (Int32.toNatClampNeg l1) 1) (hR h l0 31) (Int32.toNatClampNeg l2) 1) (hR h l0 30) (Int32.toNatClampNeg l1) 0) (hR h l0 31) (Int32.toNatClampNeg l2) 0) Z)
    (c22 : (¬ (hI h (hR h l0 32) (Int32.toNatClampNeg l1)) < 0) → vp_in (hI h (hR h l0 32) (Int32.toNatClampNeg l1)) (hL h (hR h l0 33)))
    (c23 : (¬ (hI h (hR h l0 32) (Int32.toNatClampNeg l1)) < 0) → vp_in l2 (hL h (hR h l0 33)))
    (c24 : (¬ (hI h (hR h l0 32) (Int32.toNatClampNeg l1)) < 0) → ((hI (sI h (hR h l0 33) (Int32.toNatClampNeg (hI h (hR h l0 32) (Int32.toNatClampNeg l1))) (-1)) (hR h l0 33) (Int32.toNatClampNeg l2)) < 0) → vp_in l2 (hL h (hR h l0 33)))
    (c25 : (¬ (hI h (hR h l0 32) (Int32.toNatClampNeg l1)) < 0) → ((hI (sI h (hR h l0 33) (Int32.toNatClampNeg (hI h (hR h l0 32) (Int32.toNatClampNeg l1))) (-1)) (hR h l0 33) (Int32.toNatClampNeg l2)) < 0) → vp_in l1 (hL h (hR h l0 30)))
    (c26 : (¬ (hI h (hR h l0 32) (Int32.toNatClampNeg l1)) < 0) → ((hI (sI h (hR h l0 33) (Int32.toNatClampNeg (hI h (hR h l0 32) (Int32.toNatClampNeg l1))) (-1)) (hR h l0 33) (Int32.toNatClampNeg l2)) < 0) → vp_in l2 (hL h (hR h l0 31)))
    (c27 : (¬ (hI h (hR h l0 32) (Int32.toNatClampNeg l1)) < 0) → ((hI (sI h (hR h l0 33) (Int32.toNatClampNeg (hI h (hR h l0 32) (Int32.toNatClampNeg l1))) (-1)) (hR h l0 33) (Int32.toNatClampNeg l2)) < 0) → vp_in l1 (hL h (hR h l0 30)))
    (c28 : (¬ (hI h (hR h l0 32) (Int32.toNatClampNeg l1)) < 0) → ((hI (sI h (hR h l0 33) (Int32.toNatClampNeg (hI h (hR h l0 32) (Int32.toNatClampNeg l1))) (-1)) (hR h l0 33) (Int32.toNatClampNeg l2)) < 0) → vp_in l2 (hL h (hR h l0 31)))
    (k29 : (¬ (hI h (hR h l0 32) (Int32.toNatClampNeg l1)) < 0) → ((hI (sI h (hR h l0 33) (Int32.toNatClampNeg (hI h (hR h l0 32) (Int32.toNatClampNeg l1))) (-1)) (hR h l0 33) (Int32.toNatClampNeg l2)) < 0) → RR G nc ns m_X6_force 135 [some (.ref l0), some (.int l1), some (.int l2), some (.int 0), some (.int 1)] [] (sI (sI (sI (sI (sI (sI (sI h (hR h l0 33) (Int32.toNatClampNeg (hI h (hR h l0 32) (Int32.toNatClampNeg l1))) (-1)) (hR h l0 32) (Int32.toNatClampNeg l1) l2) (hR h l0 33) (Int32.toNatClampNeg l2) l1) (hR h l0 30) (Int32.toNatClampNeg l1) 1) (hR h l0 31) (Int32.toNatClampNeg l2) 1) (hR h l0 30) (Int32.toNatClampNeg l1) 0) (hR h l0 31) (Int32.toNatClampNeg l2) 0) Z)
    (c30 : (¬ (hI h (hR h l0 32) (Int32.toNatClampNeg l1)) < 0) → (¬ (hI (sI h (hR h l0 33) (Int32.toNatClampNeg (hI h (hR h l0 32) (Int32.toNatClampNeg l1))) (-1)) (hR h l0 33) (Int32.toNatClampNeg l2)) < 0) → vp_in l2 (hL h (hR h l0 33)))
    (c31 : (¬ (hI h (hR h l0 32) (Int32.toNatClampNeg l1)) < 0) → (¬ (hI (sI h (hR h l0 33) (Int32.toNatClampNeg (hI h (hR h l0 32) (Int32.toNatClampNeg l1))) (-1)) (hR h l0 33) (Int32.toNatClampNeg l2)) < 0) → vp_in (hI (sI h (hR h l0 33) (Int32.toNatClampNeg (hI h (hR h l0 32) (Int32.toNatClampNeg l1))) (-1)) (hR h l0 33) (Int32.toNatClampNeg l2)) (hL h (hR h l0 32)))
    (c32 : (¬ (hI h (hR h l0 32) (Int32.toNatClampNeg l1)) < 0) → (¬ (hI (sI h (hR h l0 33) (Int32.toNatClampNeg (hI h (hR h l0 32) (Int32.toNatClampNeg l1))) (-1)) (hR h l0 33) (Int32.toNatClampNeg l2)) < 0) → vp_in l2 (hL h (hR h l0 33)))
    (c33 : (¬ (hI h (hR h l0 32) (Int32.toNatClampNeg l1)) < 0) → (¬ (hI (sI h (hR h l0 33) (Int32.toNatClampNeg (hI h (hR h l0 32) (Int32.toNatClampNeg l1))) (-1)) (hR h l0 33) (Int32.toNatClampNeg l2)) < 0) → vp_in l1 (hL h (hR h l0 30)))
    (c34 : (¬ (hI h (hR h l0 32) (Int32.toNatClampNeg l1)) < 0) → (¬ (hI (sI h (hR h l0 33) (Int32.toNatClampNeg (hI h (hR h l0 32) (Int32.toNatClampNeg l1))) (-1)) (hR h l0 33) (Int32.toNatClampNeg l2)) < 0) → vp_in l2 (hL h (hR h l0 31)))
    (e35 : (¬ (hI h (hR h l0 32) (Int32.toNatClampNeg l1)) < 0) → (¬ (hI (sI h (hR h l0 33) (Int32.toNatClampNeg (hI h (hR h l0 32) (Int32.toNatClampNeg l1))) (-1)) (hR h l0 33) (Int32.toNatClampNeg l2)) < 0) → Ev G m_X6_grow [.ref l0] (sI (sI (sI (sI (sI (sI h (hR h l0 33) (Int32.toNatClampNeg (hI h (hR h l0 32) (Int32.toNatClampNeg l1))) (-1)) (hR h l0 32) (Int32.toNatClampNeg (hI (sI h (hR h l0 33) (Int32.toNatClampNeg (hI h (hR h l0 32) (Int32.toNatClampNeg l1))) (-1)) (hR h l0 33) (Int32.toNatClampNeg l2))) (-1)) (hR h l0 32) (Int32.toNatClampNeg l1) l2) (hR h l0 33) (Int32.toNatClampNeg l2) l1) (hR h l0 30) (Int32.toNatClampNeg l1) 1) (hR h l0 31) (Int32.toNatClampNeg l2) 1) 0 0 (RI P2))
    (k36 : (¬ (hI h (hR h l0 32) (Int32.toNatClampNeg l1)) < 0) → (¬ (hI (sI h (hR h l0 33) (Int32.toNatClampNeg (hI h (hR h l0 32) (Int32.toNatClampNeg l1))) (-1)) (hR h l0 33) (Int32.toNatClampNeg l2)) < 0) → ∀ (x2 : Int32) (h2 : PH), P2 x2 h2 → hN h2 = (hN h) → hS h2 = (hS h) → RR G nc ns m_X6_force 102 [some (.ref l0), some (.int l1), some (.int l2), some (.int 1), none] [.int x2] h2 Z) :
    RR G nc ns m_X6_force 16 [some (.ref l0), some (.int l1), some (.int l2), none, none] [] h Z := by
  refine r_iconst (v := (-1)) dX6_force_16 (by decide) ?_
  refine r_istore_nL [some (.ref l0), some (.int l1), some (.int l2), some (.int (-1)), none] dX6_force_17 (by decide) rfl ?_
  refine r_aload_n dX6_force_18 rfl ?_
  refine r_getR (c := 6) (k := 32) dX6_force_19 rfl rfl (by decide) fl_RX6_73 (c1) rfl (c2) ?_
  refine r_iload_n dX6_force_22 rfl ?_
  refine r_ialoadJ (Int32.toNatClampNeg l1) dX6_force_23 (c3) (c4) rfl ?_
  refine r_if_lt 42 dX6_force_24 (by decide) (fun q1 => ?_) (fun q1 => ?_)
  · refine r_aload_n dX6_force_42 rfl ?_
    refine r_getR (c := 6) (k := 33) dX6_force_43 rfl rfl (by decide) fl_RX6_76 (c1) rfl (c5) ?_
    refine r_iload_n dX6_force_46 rfl ?_
    refine r_ialoadJ (Int32.toNatClampNeg l2) dX6_force_47 (c6) (c7 q1) rfl ?_
    refine r_if_lt 66 dX6_force_48 (by decide) (fun q2 => ?_) (fun q2 => ?_)
    · refine r_aload_n dX6_force_66 rfl ?_
      refine r_getR (c := 6) (k := 32) dX6_force_67 rfl rfl (by decide) fl_RX6_73 (c1) rfl (c2) ?_
      refine r_iload_n dX6_force_70 rfl ?_
      refine r_iload_n dX6_force_71 rfl ?_
      refine r_iastoreJ (Int32.toNatClampNeg l1) dX6_force_72 (c3) (c4) rfl ?_
      refine r_aload_n dX6_force_73 rfl ?_
      refine r_getR (c := 6) (k := 33) dX6_force_74 rfl rfl (by decide) fl_RX6_76 (c1) rfl (c5) ?_
      refine r_iload_n dX6_force_77 rfl ?_
      refine r_iload_n dX6_force_78 rfl ?_
      refine r_iastoreJ (Int32.toNatClampNeg l2) dX6_force_79 (c6) (c7 q1) rfl ?_
      refine r_aload_n dX6_force_80 rfl ?_
      refine r_getR (c := 6) (k := 30) dX6_force_81 rfl rfl (by decide) fl_RX6_67 (c1) rfl (c8) ?_
      refine r_iload_n dX6_force_84 rfl ?_
      refine r_iconst (v := 1) dX6_force_85 (by decide) ?_
      refine r_bastoreJ (Int32.toNatClampNeg l1) dX6_force_86 (c9) (c10 q1 q2) rfl (by decide) ?_
      refine r_aload_n dX6_force_87 rfl ?_
      refine r_getR (c := 6) (k := 31) dX6_force_88 rfl rfl (by decide) fl_RX6_70 (c1) rfl (c11) ?_
      refine r_iload_n dX6_force_91 rfl ?_
      refine r_iconst (v := 1) dX6_force_92 (by decide) ?_
      refine r_bastoreJ (Int32.toNatClampNeg l2) dX6_force_93 (c12) (c13 q1 q2) rfl (by decide) ?_
      refine r_iload_n dX6_force_94 rfl ?_
      refine r_if_eq_f (tgt := 105) dX6_force_95 (by decide) (by decide) ?_
      refine r_aload_n dX6_force_98 rfl ?_
      refine r_callV (c := 6) (mc := 0) (ms := 0) dX6_force_99 ck_X6_grow iv_X6_grow sl_X6_grow lk_RX6_108 rfl rfl (c1) (by decide) (by decide) (As := []) rfl rfl (Nat.le_of_ble_eq_true rfl) (Or.inl rfl) (Or.inl rfl) (e14 q1 q2) ?_
      rintro v1 h1 ⟨x1, rfl, z1⟩ n1 t1
      exact k15 q1 q2 x1 h1 z1 n1 t1
    · refine r_aload_n dX6_force_51 rfl ?_
      refine r_getR (c := 6) (k := 32) dX6_force_52 rfl rfl (by decide) fl_RX6_73 (c1) rfl (c2) ?_
      refine r_aload_n dX6_force_55 rfl ?_
      refine r_getR (c := 6) (k := 33) dX6_force_56 rfl rfl (by decide) fl_RX6_76 (c1) rfl (c5) ?_
      refine r_iload_n dX6_force_59 rfl ?_
      refine r_ialoadJ (Int32.toNatClampNeg l2) dX6_force_60 (c6) (c7 q1) rfl ?_
      refine r_iconst (v := (-1)) dX6_force_61 (by decide) ?_
      refine r_iastoreJ (Int32.toNatClampNeg (hI h (hR h l0 33) (Int32.toNatClampNeg l2))) dX6_force_62 (c3) (c16 q1 q2) rfl ?_
      refine r_iincL (v := 0) [some (.ref l0), some (.int l1), some (.int l2), some (.int 0), none] dX6_force_63 rfl (by decide) (by decide) rfl ?_
      refine r_aload_n dX6_force_66 rfl ?_
      refine r_getR (c := 6) (k := 32) dX6_force_67 rfl rfl (by decide) fl_RX6_73 (c1) rfl (c2) ?_
      refine r_iload_n dX6_force_70 rfl ?_
      refine r_iload_n dX6_force_71 rfl ?_
      refine r_iastoreJ (Int32.toNatClampNeg l1) dX6_force_72 (c3) (c4) rfl ?_
      refine r_aload_n dX6_force_73 rfl ?_
      refine r_getR (c := 6) (k := 33) dX6_force_74 rfl rfl (by decide) fl_RX6_76 (c1) rfl (c5) ?_
      refine r_iload_n dX6_force_77 rfl ?_
      refine r_iload_n dX6_force_78 rfl ?_
      refine r_iastoreJ (Int32.toNatClampNeg l2) dX6_force_79 (c6) (c7 q1) rfl ?_
      refine r_aload_n dX6_force_80 rfl ?_
      refine r_getR (c := 6) (k := 30) dX6_force_81 rfl rfl (by decide) fl_RX6_67 (c1) rfl (c8) ?_
      refine r_iload_n dX6_force_84 rfl ?_
      refine r_iconst (v := 1) dX6_force_85 (by decide) ?_
      refine r_bastoreJ (Int32.toNatClampNeg l1) dX6_force_86 (c9) (c17 q1 q2) rfl (by decide) ?_
      refine r_aload_n dX6_force_87 rfl ?_
      refine r_getR (c := 6) (k := 31) dX6_force_88 rfl rfl (by decide) fl_RX6_70 (c1) rfl (c11) ?_
      refine r_iload_n dX6_force_91 rfl ?_
      refine r_iconst (v := 1) dX6_force_92 (by decide) ?_
      refine r_bastoreJ (Int32.toNatClampNeg l2) dX6_force_93 (c12) (c18 q1 q2) rfl (by decide) ?_
      refine r_iload_n dX6_force_94 rfl ?_
      refine r_if_eq_t (tgt := 105) dX6_force_95 (by decide) (by decide) ?_
      refine r_iconst (v := 1) dX6_force_105 (by decide) ?_
      refine r_goto (tgt := 110) dX6_force_106 (by decide) ?_
      refine r_istoreL [some (.ref l0), some (.int l1), some (.int l2), some (.int 0), some (.int 1)] dX6_force_110 (by decide) rfl ?_
      refine r_aload_n dX6_force_112 rfl ?_
      refine r_getR (c := 6) (k := 30) dX6_force_113 rfl rfl (by decide) fl_RX6_67 (c1) rfl (c8) ?_
      refine r_iload_n dX6_force_116 rfl ?_
      refine r_iconst (v := 0) dX6_force_117 (by decide) ?_
      refine r_bastoreJ (Int32.toNatClampNeg l1) dX6_force_118 (c9) (c19 q1 q2) rfl (by decide) ?_
      refine r_aload_n dX6_force_119 rfl ?_
      refine r_getR (c := 6) (k := 31) dX6_force_120 rfl rfl (by decide) fl_RX6_70 (c1) rfl (c11) ?_
      refine r_iload_n dX6_force_123 rfl ?_
      refine r_iconst (v := 0) dX6_force_124 (by decide) ?_
      refine r_bastoreJ (Int32.toNatClampNeg l2) dX6_force_125 (c12) (c20 q1 q2) rfl (by decide) ?_
      refine r_iload dX6_force_126 rfl ?_
      refine r_if_ne_t (tgt := 135) dX6_force_128 (by decide) (by decide) ?_
      exact k21 q1 q2
  · refine r_aload_n dX6_force_27 rfl ?_
    refine r_getR (c := 6) (k := 33) dX6_force_28 rfl rfl (by decide) fl_RX6_76 (c1) rfl (c5) ?_
    refine r_aload_n dX6_force_31 rfl ?_
    refine r_getR (c := 6) (k := 32) dX6_force_32 rfl rfl (by decide) fl_RX6_73 (c1) rfl (c2) ?_
    refine r_iload_n dX6_force_35 rfl ?_
    refine r_ialoadJ (Int32.toNatClampNeg l1) dX6_force_36 (c3) (c4) rfl ?_
    refine r_iconst (v := (-1)) dX6_force_37 (by decide) ?_
    refine r_iastoreJ (Int32.toNatClampNeg (hI h (hR h l0 32) (Int32.toNatClampNeg l1))) dX6_force_38 (c6) (c22 q1) rfl ?_
    refine r_iincL (v := 0) [some (.ref l0), some (.int l1), some (.int l2), some (.int 0), none] dX6_force_39 rfl (by decide) (by decide) rfl ?_
    refine r_aload_n dX6_force_42 rfl ?_
    refine r_getR (c := 6) (k := 33) dX6_force_43 rfl rfl (by decide) fl_RX6_76 (c1) rfl (c5) ?_
    refine r_iload_n dX6_force_46 rfl ?_
    refine r_ialoadJ (Int32.toNatClampNeg l2) dX6_force_47 (c6) (c23 q1) rfl ?_
    refine r_if_lt 66 dX6_force_48 (by decide) (fun q3 => ?_) (fun q3 => ?_)
    · refine r_aload_n dX6_force_66 rfl ?_
      refine r_getR (c := 6) (k := 32) dX6_force_67 rfl rfl (by decide) fl_RX6_73 (c1) rfl (c2) ?_
      refine r_iload_n dX6_force_70 rfl ?_
      refine r_iload_n dX6_force_71 rfl ?_
      refine r_iastoreJ (Int32.toNatClampNeg l1) dX6_force_72 (c3) (c4) rfl ?_
      refine r_aload_n dX6_force_73 rfl ?_
      refine r_getR (c := 6) (k := 33) dX6_force_74 rfl rfl (by decide) fl_RX6_76 (c1) rfl (c5) ?_
      refine r_iload_n dX6_force_77 rfl ?_
      refine r_iload_n dX6_force_78 rfl ?_
      refine r_iastoreJ (Int32.toNatClampNeg l2) dX6_force_79 (c6) (c24 q1 q3) rfl ?_
      refine r_aload_n dX6_force_80 rfl ?_
      refine r_getR (c := 6) (k := 30) dX6_force_81 rfl rfl (by decide) fl_RX6_67 (c1) rfl (c8) ?_
      refine r_iload_n dX6_force_84 rfl ?_
      refine r_iconst (v := 1) dX6_force_85 (by decide) ?_
      refine r_bastoreJ (Int32.toNatClampNeg l1) dX6_force_86 (c9) (c25 q1 q3) rfl (by decide) ?_
      refine r_aload_n dX6_force_87 rfl ?_
      refine r_getR (c := 6) (k := 31) dX6_force_88 rfl rfl (by decide) fl_RX6_70 (c1) rfl (c11) ?_
      refine r_iload_n dX6_force_91 rfl ?_
      refine r_iconst (v := 1) dX6_force_92 (by decide) ?_
      refine r_bastoreJ (Int32.toNatClampNeg l2) dX6_force_93 (c12) (c26 q1 q3) rfl (by decide) ?_
      refine r_iload_n dX6_force_94 rfl ?_
      refine r_if_eq_t (tgt := 105) dX6_force_95 (by decide) (by decide) ?_
      refine r_iconst (v := 1) dX6_force_105 (by decide) ?_
      refine r_goto (tgt := 110) dX6_force_106 (by decide) ?_
      refine r_istoreL [some (.ref l0), some (.int l1), some (.int l2), some (.int 0), some (.int 1)] dX6_force_110 (by decide) rfl ?_
      refine r_aload_n dX6_force_112 rfl ?_
      refine r_getR (c := 6) (k := 30) dX6_force_113 rfl rfl (by decide) fl_RX6_67 (c1) rfl (c8) ?_
      refine r_iload_n dX6_force_116 rfl ?_
      refine r_iconst (v := 0) dX6_force_117 (by decide) ?_
      refine r_bastoreJ (Int32.toNatClampNeg l1) dX6_force_118 (c9) (c27 q1 q3) rfl (by decide) ?_
      refine r_aload_n dX6_force_119 rfl ?_
      refine r_getR (c := 6) (k := 31) dX6_force_120 rfl rfl (by decide) fl_RX6_70 (c1) rfl (c11) ?_
      refine r_iload_n dX6_force_123 rfl ?_
      refine r_iconst (v := 0) dX6_force_124 (by decide) ?_
      refine r_bastoreJ (Int32.toNatClampNeg l2) dX6_force_125 (c12) (c28 q1 q3) rfl (by decide) ?_
      refine r_iload dX6_force_126 rfl ?_
      refine r_if_ne_t (tgt := 135) dX6_force_128 (by decide) (by decide) ?_
      exact k29 q1 q3
    · refine r_aload_n dX6_force_51 rfl ?_
      refine r_getR (c := 6) (k := 32) dX6_force_52 rfl rfl (by decide) fl_RX6_73 (c1) rfl (c2) ?_
      refine r_aload_n dX6_force_55 rfl ?_
      refine r_getR (c := 6) (k := 33) dX6_force_56 rfl rfl (by decide) fl_RX6_76 (c1) rfl (c5) ?_
      refine r_iload_n dX6_force_59 rfl ?_
      refine r_ialoadJ (Int32.toNatClampNeg l2) dX6_force_60 (c6) (c30 q1 q3) rfl ?_
      refine r_iconst (v := (-1)) dX6_force_61 (by decide) ?_
      refine r_iastoreJ (Int32.toNatClampNeg (hI (sI h (hR h l0 33) (Int32.toNatClampNeg (hI h (hR h l0 32) (Int32.toNatClampNeg l1))) (-1)) (hR h l0 33) (Int32.toNatClampNeg l2))) dX6_force_62 (c3) (c31 q1 q3) rfl ?_
      refine r_iincL (v := 1) [some (.ref l0), some (.int l1), some (.int l2), some (.int 1), none] dX6_force_63 rfl (by decide) (by decide) rfl ?_
      refine r_aload_n dX6_force_66 rfl ?_
      refine r_getR (c := 6) (k := 32) dX6_force_67 rfl rfl (by decide) fl_RX6_73 (c1) rfl (c2) ?_
      refine r_iload_n dX6_force_70 rfl ?_
      refine r_iload_n dX6_force_71 rfl ?_
      refine r_iastoreJ (Int32.toNatClampNeg l1) dX6_force_72 (c3) (c4) rfl ?_
      refine r_aload_n dX6_force_73 rfl ?_
      refine r_getR (c := 6) (k := 33) dX6_force_74 rfl rfl (by decide) fl_RX6_76 (c1) rfl (c5) ?_
      refine r_iload_n dX6_force_77 rfl ?_
      refine r_iload_n dX6_force_78 rfl ?_
      refine r_iastoreJ (Int32.toNatClampNeg l2) dX6_force_79 (c6) (c32 q1 q3) rfl ?_
      refine r_aload_n dX6_force_80 rfl ?_
      refine r_getR (c := 6) (k := 30) dX6_force_81 rfl rfl (by decide) fl_RX6_67 (c1) rfl (c8) ?_
      refine r_iload_n dX6_force_84 rfl ?_
      refine r_iconst (v := 1) dX6_force_85 (by decide) ?_
      refine r_bastoreJ (Int32.toNatClampNeg l1) dX6_force_86 (c9) (c33 q1 q3) rfl (by decide) ?_
      refine r_aload_n dX6_force_87 rfl ?_
      refine r_getR (c := 6) (k := 31) dX6_force_88 rfl rfl (by decide) fl_RX6_70 (c1) rfl (c11) ?_
      refine r_iload_n dX6_force_91 rfl ?_
      refine r_iconst (v := 1) dX6_force_92 (by decide) ?_
      refine r_bastoreJ (Int32.toNatClampNeg l2) dX6_force_93 (c12) (c34 q1 q3) rfl (by decide) ?_
      refine r_iload_n dX6_force_94 rfl ?_
      refine r_if_eq_f (tgt := 105) dX6_force_95 (by decide) (by decide) ?_
      refine r_aload_n dX6_force_98 rfl ?_
      refine r_callV (c := 6) (mc := 0) (ms := 0) dX6_force_99 ck_X6_grow iv_X6_grow sl_X6_grow lk_RX6_108 rfl rfl (c1) (by decide) (by decide) (As := []) rfl rfl (Nat.le_of_ble_eq_true rfl) (Or.inl rfl) (Or.inl rfl) (e35 q1 q3) ?_
      rintro v2 h2 ⟨x2, rfl, z2⟩ n2 t2
      exact k36 q1 q3 x2 h2 z2 n2 t2

set_option maxRecDepth 20000 in
set_option maxHeartbeats 2000000 in
theorem s_X6_force_102 {G : GG} {nc ns : Nat} {h : PH} {Z : Option Value → PH → Prop} {l0 : Nat} {l1 : Int32} {l2 : Int32} {l3 : Int32} {s0 : Int32} {P1 : PH → Prop}
    (c1 : hK h l0 = 16)
    (c2 : (hR h l0 30) ≠ 0)
    (c3 : hK h (hR h l0 30) = 4)
    (c4 : (s0 = 0) → vp_in l1 (hL h (hR h l0 30)))
    (c5 : (hR h l0 31) ≠ 0)
    (c6 : hK h (hR h l0 31) = 4)
    (c7 : (s0 = 0) → vp_in l2 (hL h (hR h l0 31)))
    (e8 : (s0 = 0) → Ev G m_X6_putBack [.ref l0] (sI (sI h (hR h l0 30) (Int32.toNatClampNeg l1) 0) (hR h l0 31) (Int32.toNatClampNeg l2) 0) 0 0 (RV P1))
    (k9 : (s0 = 0) → ∀ (h1 : PH), P1 h1 → hN h1 = (hN h) → hS h1 = (hS h) → RR G nc ns m_X6_force 135 [some (.ref l0), some (.int l1), some (.int l2), some (.int l3), some (.int 0)] [] h1 Z)
    (c10 : (¬ s0 = 0) → vp_in l1 (hL h (hR h l0 30)))
    (c11 : (¬ s0 = 0) → vp_in l2 (hL h (hR h l0 31)))
    (k12 : (¬ s0 = 0) → RR G nc ns m_X6_force 135 [some (.ref l0), some (.int l1), some (.int l2), some (.int l3), some (.int 1)] [] (sI (sI h (hR h l0 30) (Int32.toNatClampNeg l1) 0) (hR h l0 31) (Int32.toNatClampNeg l2) 0) Z) :
    RR G nc ns m_X6_force 102 [some (.ref l0), some (.int l1), some (.int l2), some (.int l3), none] [.int s0] h Z := by
  refine r_if_eq 109 dX6_force_102 (by decide) (fun q1 => ?_) (fun q1 => ?_)
  · refine r_iconst (v := 0) dX6_force_109 (by decide) ?_
    refine r_istoreL [some (.ref l0), some (.int l1), some (.int l2), some (.int l3), some (.int 0)] dX6_force_110 (by decide) rfl ?_
    refine r_aload_n dX6_force_112 rfl ?_
    refine r_getR (c := 6) (k := 30) dX6_force_113 rfl rfl (by decide) fl_RX6_67 (c1) rfl (c2) ?_
    refine r_iload_n dX6_force_116 rfl ?_
    refine r_iconst (v := 0) dX6_force_117 (by decide) ?_
    refine r_bastoreJ (Int32.toNatClampNeg l1) dX6_force_118 (c3) (c4 q1) rfl (by decide) ?_
    refine r_aload_n dX6_force_119 rfl ?_
    refine r_getR (c := 6) (k := 31) dX6_force_120 rfl rfl (by decide) fl_RX6_70 (c1) rfl (c5) ?_
    refine r_iload_n dX6_force_123 rfl ?_
    refine r_iconst (v := 0) dX6_force_124 (by decide) ?_
    refine r_bastoreJ (Int32.toNatClampNeg l2) dX6_force_125 (c6) (c7 q1) rfl (by decide) ?_
    refine r_iload dX6_force_126 rfl ?_
    refine r_if_ne_f (tgt := 135) dX6_force_128 (by decide) (by decide) ?_
    refine r_aload_n dX6_force_131 rfl ?_
    refine r_callV (c := 6) (mc := 0) (ms := 0) dX6_force_132 ck_X6_putBack iv_X6_putBack sl_X6_putBack lk_RX6_115 rfl rfl (c1) (by decide) (by decide) (As := []) rfl rfl (Nat.le_of_ble_eq_true rfl) (Or.inl rfl) (Or.inl rfl) (e8 q1) ?_
    rintro v1 h1 ⟨rfl, z1⟩ n1 t1
    exact k9 q1 h1 z1 n1 t1
  · refine r_iconst (v := 1) dX6_force_105 (by decide) ?_
    refine r_goto (tgt := 110) dX6_force_106 (by decide) ?_
    refine r_istoreL [some (.ref l0), some (.int l1), some (.int l2), some (.int l3), some (.int 1)] dX6_force_110 (by decide) rfl ?_
    refine r_aload_n dX6_force_112 rfl ?_
    refine r_getR (c := 6) (k := 30) dX6_force_113 rfl rfl (by decide) fl_RX6_67 (c1) rfl (c2) ?_
    refine r_iload_n dX6_force_116 rfl ?_
    refine r_iconst (v := 0) dX6_force_117 (by decide) ?_
    refine r_bastoreJ (Int32.toNatClampNeg l1) dX6_force_118 (c3) (c10 q1) rfl (by decide) ?_
    refine r_aload_n dX6_force_119 rfl ?_
    refine r_getR (c := 6) (k := 31) dX6_force_120 rfl rfl (by decide) fl_RX6_70 (c1) rfl (c5) ?_
    refine r_iload_n dX6_force_123 rfl ?_
    refine r_iconst (v := 0) dX6_force_124 (by decide) ?_
    refine r_bastoreJ (Int32.toNatClampNeg l2) dX6_force_125 (c6) (c11 q1) rfl (by decide) ?_
    refine r_iload dX6_force_126 rfl ?_
    refine r_if_ne_t (tgt := 135) dX6_force_128 (by decide) (by decide) ?_
    exact k12 q1

set_option maxRecDepth 20000 in
set_option maxHeartbeats 2000000 in
theorem s_X6_force_135 {G : GG} {nc ns : Nat} {h : PH} {Z : Option Value → PH → Prop} {l0 : Nat} {l1 : Int32} {l2 : Int32} {l3 : Int32} {l4 : Int32}
    (k1 : Z (some (.int l4)) h)
    (c2 : (l4 = 0 ∨ l4 = 1)) :
    RR G nc ns m_X6_force 135 [some (.ref l0), some (.int l1), some (.int l2), some (.int l3), some (.int l4)] [] h Z := by
  refine r_iload dX6_force_135 rfl ?_
  exact r_zreturn dX6_force_137 rfl (c2) (k1)

set_option maxRecDepth 20000 in
set_option maxHeartbeats 2000000 in
theorem s_X6_improve_0 {G : GG} {nc ns : Nat} {h : PH} {Z : Option Value → PH → Prop} {l0 : Nat}
    (k1 : RR G nc ns m_X6_improve 2 [some (.ref l0), some (.int 0), none, none] [] h Z) :
    RR G nc ns m_X6_improve 0 [some (.ref l0), none, none, none] [] h Z := by
  refine r_iconst (v := 0) dX6_improve_0 (by decide) ?_
  refine r_istore_nL [some (.ref l0), some (.int 0), none, none] dX6_improve_1 (by decide) rfl ?_
  exact k1

set_option maxRecDepth 20000 in
set_option maxHeartbeats 2000000 in
theorem s_X6_improve_2 {G : GG} {nc ns : Nat} {h : PH} {Z : Option Value → PH → Prop} {l0 : Nat} {l1 : Int32}
    (c1 : hK h l0 = 16)
    (k2 : ((hI h l0 28) ≤ l1) → RR G nc ns m_X6_improve 96 [some (.ref l0), some (.int 0), none, none] [] h Z)
    (k3 : (¬ (hI h l0 28) ≤ l1) → RR G nc ns m_X6_improve 14 [some (.ref l0), some (.int l1), some (.int 0), some (.int 0)] [] h Z) :
    RR G nc ns m_X6_improve 2 [some (.ref l0), some (.int l1), none, none] [] h Z := by
  refine r_iload_n dX6_improve_2 rfl ?_
  refine r_aload_n dX6_improve_3 rfl ?_
  refine r_get (c := 6) (k := 28) dX6_improve_4 rfl rfl (by decide) fl_RX6_91 (c1) rfl ?_
  refine r_icmp_ge 94 dX6_improve_7 (by decide) (fun q1 => ?_) (fun q1 => ?_)
  · refine r_iconst (v := 0) dX6_improve_94 (by decide) ?_
    refine r_istore_nL [some (.ref l0), some (.int 0), none, none] dX6_improve_95 (by decide) rfl ?_
    exact k2 q1
  · refine r_iconst (v := 0) dX6_improve_10 (by decide) ?_
    refine r_istore_nL [some (.ref l0), some (.int l1), some (.int 0), none] dX6_improve_11 (by decide) rfl ?_
    refine r_iconst (v := 0) dX6_improve_12 (by decide) ?_
    refine r_istore_nL [some (.ref l0), some (.int l1), some (.int 0), some (.int 0)] dX6_improve_13 (by decide) rfl ?_
    exact k3 q1

set_option maxRecDepth 20000 in
set_option maxHeartbeats 2000000 in
theorem s_X6_improve_14 {G : GG} {nc ns : Nat} {h : PH} {Z : Option Value → PH → Prop} {l0 : Nat} {l1 : Int32} {l2 : Int32} {l3 : Int32} {P1 : Int32 → PH → Prop}
    (c1 : hK h l0 = 16)
    (c2 : (hR h l0 30) ≠ 0)
    (c3 : hK h (hR h l0 30) = 4)
    (c4 : ((hI h l0 29) ≤ l3) → vp_in l1 (hL h (hR h l0 30)))
    (k5 : ((hI h l0 29) ≤ l3) → RR G nc ns m_X6_improve 2 [some (.ref l0), some (.int (l1 + 1)), none, none] [] (sI h (hR h l0 30) (Int32.toNatClampNeg l1) 1) Z)
    (c6 : (¬ (hI h l0 29) ≤ l3) → (¬ l2 = 0) → vp_in l1 (hL h (hR h l0 30)))
    (k7 : (¬ (hI h l0 29) ≤ l3) → (¬ l2 = 0) → RR G nc ns m_X6_improve 2 [some (.ref l0), some (.int (l1 + 1)), none, none] [] (sI h (hR h l0 30) (Int32.toNatClampNeg l1) 1) Z)
    (c8 : (hR h l0 27) ≠ 0)
    (c9 : hK h (hR h l0 27) = 4)
    (c10 : (¬ (hI h l0 29) ≤ l3) → (l2 = 0) → vp_in ((50 * l1) + l3) (hL h (hR h l0 27)))
    (k11 : (¬ (hI h l0 29) ≤ l3) → (l2 = 0) → ((hI h (hR h l0 27) (Int32.toNatClampNeg ((50 * l1) + l3))) = 0) → RR G nc ns m_X6_improve 14 [some (.ref l0), some (.int l1), some (.int 0), some (.int (l3 + 1))] [] h Z)
    (c12 : (hR h l0 31) ≠ 0)
    (c13 : hK h (hR h l0 31) = 4)
    (c14 : (¬ (hI h l0 29) ≤ l3) → (l2 = 0) → (¬ (hI h (hR h l0 27) (Int32.toNatClampNeg ((50 * l1) + l3))) = 0) → vp_in l3 (hL h (hR h l0 31)))
    (k15 : (¬ (hI h l0 29) ≤ l3) → (l2 = 0) → (¬ (hI h (hR h l0 27) (Int32.toNatClampNeg ((50 * l1) + l3))) = 0) → (¬ (hI h (hR h l0 31) (Int32.toNatClampNeg l3)) = 0) → RR G nc ns m_X6_improve 14 [some (.ref l0), some (.int l1), some (.int 0), some (.int (l3 + 1))] [] h Z)
    (e16 : (¬ (hI h l0 29) ≤ l3) → (l2 = 0) → (¬ (hI h (hR h l0 27) (Int32.toNatClampNeg ((50 * l1) + l3))) = 0) → ((hI h (hR h l0 31) (Int32.toNatClampNeg l3)) = 0) → Ev G m_X6_force [.ref l0, .int l1, .int l3] h 0 0 (RI P1))
    (k17 : (¬ (hI h l0 29) ≤ l3) → (l2 = 0) → (¬ (hI h (hR h l0 27) (Int32.toNatClampNeg ((50 * l1) + l3))) = 0) → ((hI h (hR h l0 31) (Int32.toNatClampNeg l3)) = 0) → ∀ (x1 : Int32) (h1 : PH), P1 x1 h1 → hN h1 = (hN h) → hS h1 = (hS h) → RR G nc ns m_X6_improve 55 [some (.ref l0), some (.int l1), some (.int l2), some (.int l3)] [.int x1] h1 Z) :
    RR G nc ns m_X6_improve 14 [some (.ref l0), some (.int l1), some (.int l2), some (.int l3)] [] h Z := by
  refine r_iload_n dX6_improve_14 rfl ?_
  refine r_aload_n dX6_improve_15 rfl ?_
  refine r_get (c := 6) (k := 29) dX6_improve_16 rfl rfl (by decide) fl_RX6_95 (c1) rfl ?_
  refine r_icmp_ge 81 dX6_improve_19 (by decide) (fun q1 => ?_) (fun q1 => ?_)
  · refine r_aload_n dX6_improve_81 rfl ?_
    refine r_getR (c := 6) (k := 30) dX6_improve_82 rfl rfl (by decide) fl_RX6_67 (c1) rfl (c2) ?_
    refine r_iload_n dX6_improve_85 rfl ?_
    refine r_iconst (v := 1) dX6_improve_86 (by decide) ?_
    refine r_bastoreJ (Int32.toNatClampNeg l1) dX6_improve_87 (c3) (c4 q1) rfl (by decide) ?_
    refine r_iincL (v := l1 + 1) [some (.ref l0), some (.int (l1 + 1)), some (.int l2), some (.int l3)] dX6_improve_88 rfl (by decide) rfl rfl ?_
    refine r_goto (tgt := 2) dX6_improve_91 (by decide) ?_
    exact RR.sub (k5 q1) (And.intro rfl (And.intro rfl (trivial)))
  · refine r_iload_n dX6_improve_22 rfl ?_
    refine r_if_ne 81 dX6_improve_23 (by decide) (fun q2 => ?_) (fun q2 => ?_)
    · refine r_aload_n dX6_improve_81 rfl ?_
      refine r_getR (c := 6) (k := 30) dX6_improve_82 rfl rfl (by decide) fl_RX6_67 (c1) rfl (c2) ?_
      refine r_iload_n dX6_improve_85 rfl ?_
      refine r_iconst (v := 1) dX6_improve_86 (by decide) ?_
      refine r_bastoreJ (Int32.toNatClampNeg l1) dX6_improve_87 (c3) (c6 q1 q2) rfl (by decide) ?_
      refine r_iincL (v := l1 + 1) [some (.ref l0), some (.int (l1 + 1)), some (.int l2), some (.int l3)] dX6_improve_88 rfl (by decide) rfl rfl ?_
      refine r_goto (tgt := 2) dX6_improve_91 (by decide) ?_
      exact RR.sub (k7 q1 q2) (And.intro rfl (And.intro rfl (trivial)))
    · refine r_aload_n dX6_improve_26 rfl ?_
      refine r_getR (c := 6) (k := 27) dX6_improve_27 rfl rfl (by decide) fl_RX6_64 (c1) rfl (c8) ?_
      refine r_bipush (v := 50) dX6_improve_30 (by decide) ?_
      refine r_iload_n dX6_improve_32 rfl ?_
      refine r_imul dX6_improve_33 ?_
      refine r_iload_n dX6_improve_34 rfl ?_
      refine r_iadd dX6_improve_35 ?_
      refine r_baloadJ (Int32.toNatClampNeg ((50 * l1) + l3)) dX6_improve_36 (c9) (c10 q1 q2) rfl ?_
      refine r_if_eq 62 dX6_improve_37 (by decide) (fun q3 => ?_) (fun q3 => ?_)
      · refine r_iconst (v := 0) dX6_improve_62 (by decide) ?_
        refine r_istore_nL [some (.ref l0), some (.int l1), some (.int 0), some (.int l3)] dX6_improve_63 (by decide) rfl ?_
        refine r_iload_n dX6_improve_64 rfl ?_
        refine r_if_eq_t (tgt := 75) dX6_improve_65 (by decide) (by decide) ?_
        refine r_iincL (v := l3 + 1) [some (.ref l0), some (.int l1), some (.int 0), some (.int (l3 + 1))] dX6_improve_75 rfl (by decide) rfl rfl ?_
        refine r_goto (tgt := 14) dX6_improve_78 (by decide) ?_
        exact k11 q1 q2 q3
      · refine r_aload_n dX6_improve_40 rfl ?_
        refine r_getR (c := 6) (k := 31) dX6_improve_41 rfl rfl (by decide) fl_RX6_70 (c1) rfl (c12) ?_
        refine r_iload_n dX6_improve_44 rfl ?_
        refine r_baloadJ (Int32.toNatClampNeg l3) dX6_improve_45 (c13) (c14 q1 q2 q3) rfl ?_
        refine r_if_ne 62 dX6_improve_46 (by decide) (fun q4 => ?_) (fun q4 => ?_)
        · refine r_iconst (v := 0) dX6_improve_62 (by decide) ?_
          refine r_istore_nL [some (.ref l0), some (.int l1), some (.int 0), some (.int l3)] dX6_improve_63 (by decide) rfl ?_
          refine r_iload_n dX6_improve_64 rfl ?_
          refine r_if_eq_t (tgt := 75) dX6_improve_65 (by decide) (by decide) ?_
          refine r_iincL (v := l3 + 1) [some (.ref l0), some (.int l1), some (.int 0), some (.int (l3 + 1))] dX6_improve_75 rfl (by decide) rfl rfl ?_
          refine r_goto (tgt := 14) dX6_improve_78 (by decide) ?_
          exact k15 q1 q2 q3 q4
        · refine r_aload_n dX6_improve_49 rfl ?_
          refine r_iload_n dX6_improve_50 rfl ?_
          refine r_iload_n dX6_improve_51 rfl ?_
          refine r_callV (c := 6) (mc := 0) (ms := 0) dX6_improve_52 ck_X6_force iv_X6_force sl_X6_force lk_RX6_118 rfl rfl (c1) (by decide) (by decide) (As := [.int l1, .int l3]) rfl rfl (Nat.le_of_ble_eq_true rfl) (Or.inl rfl) (Or.inl rfl) (e16 q1 q2 q3 q4) ?_
          rintro v1 h1 ⟨x1, rfl, z1⟩ n1 t1
          exact k17 q1 q2 q3 q4 x1 h1 z1 n1 t1

set_option maxRecDepth 20000 in
set_option maxHeartbeats 2000000 in
theorem s_X6_improve_55 {G : GG} {nc ns : Nat} {h : PH} {Z : Option Value → PH → Prop} {l0 : Nat} {l1 : Int32} {l2 : Int32} {l3 : Int32} {s0 : Int32}
    (k1 : (s0 = 0) → RR G nc ns m_X6_improve 14 [some (.ref l0), some (.int l1), some (.int 0), some (.int (l3 + 1))] [] h Z)
    (c2 : hK h l0 = 16)
    (c3 : (hR h l0 31) ≠ 0)
    (c4 : hK h (hR h l0 31) = 4)
    (c5 : (¬ s0 = 0) → vp_in l3 (hL h (hR h l0 31)))
    (k6 : (¬ s0 = 0) → RR G nc ns m_X6_improve 14 [some (.ref l0), some (.int l1), some (.int 1), some (.int (l3 + 1))] [] (sI h (hR h l0 31) (Int32.toNatClampNeg l3) 1) Z) :
    RR G nc ns m_X6_improve 55 [some (.ref l0), some (.int l1), some (.int l2), some (.int l3)] [.int s0] h Z := by
  refine r_if_eq 62 dX6_improve_55 (by decide) (fun q1 => ?_) (fun q1 => ?_)
  · refine r_iconst (v := 0) dX6_improve_62 (by decide) ?_
    refine r_istore_nL [some (.ref l0), some (.int l1), some (.int 0), some (.int l3)] dX6_improve_63 (by decide) rfl ?_
    refine r_iload_n dX6_improve_64 rfl ?_
    refine r_if_eq_t (tgt := 75) dX6_improve_65 (by decide) (by decide) ?_
    refine r_iincL (v := l3 + 1) [some (.ref l0), some (.int l1), some (.int 0), some (.int (l3 + 1))] dX6_improve_75 rfl (by decide) rfl rfl ?_
    refine r_goto (tgt := 14) dX6_improve_78 (by decide) ?_
    exact k1 q1
  · refine r_iconst (v := 1) dX6_improve_58 (by decide) ?_
    refine r_goto (tgt := 63) dX6_improve_59 (by decide) ?_
    refine r_istore_nL [some (.ref l0), some (.int l1), some (.int 1), some (.int l3)] dX6_improve_63 (by decide) rfl ?_
    refine r_iload_n dX6_improve_64 rfl ?_
    refine r_if_eq_f (tgt := 75) dX6_improve_65 (by decide) (by decide) ?_
    refine r_aload_n dX6_improve_68 rfl ?_
    refine r_getR (c := 6) (k := 31) dX6_improve_69 rfl rfl (by decide) fl_RX6_70 (c2) rfl (c3) ?_
    refine r_iload_n dX6_improve_72 rfl ?_
    refine r_iconst (v := 1) dX6_improve_73 (by decide) ?_
    refine r_bastoreJ (Int32.toNatClampNeg l3) dX6_improve_74 (c4) (c5 q1) rfl (by decide) ?_
    refine r_iincL (v := l3 + 1) [some (.ref l0), some (.int l1), some (.int 1), some (.int (l3 + 1))] dX6_improve_75 rfl (by decide) rfl rfl ?_
    refine r_goto (tgt := 14) dX6_improve_78 (by decide) ?_
    exact k6 q1

set_option maxRecDepth 20000 in
set_option maxHeartbeats 2000000 in
theorem s_X6_improve_96 {G : GG} {nc ns : Nat} {h : PH} {Z : Option Value → PH → Prop} {l0 : Nat} {l1 : Int32}
    (k1 : (50 ≤ l1) → Z none h)
    (c2 : hK h l0 = 16)
    (c3 : (hR h l0 30) ≠ 0)
    (c4 : hK h (hR h l0 30) = 4)
    (c5 : (¬ 50 ≤ l1) → (l1 < (hI h l0 28)) → vp_in l1 (hL h (hR h l0 30)))
    (c6 : (hR h l0 31) ≠ 0)
    (c7 : hK h (hR h l0 31) = 4)
    (c8 : (¬ 50 ≤ l1) → (l1 < (hI h l0 28)) → (l1 < (hI (sI h (hR h l0 30) (Int32.toNatClampNeg l1) 0) l0 29)) → vp_in l1 (hL h (hR h l0 31)))
    (k9 : (¬ 50 ≤ l1) → (l1 < (hI h l0 28)) → (l1 < (hI (sI h (hR h l0 30) (Int32.toNatClampNeg l1) 0) l0 29)) → RR G nc ns m_X6_improve 96 [some (.ref l0), some (.int (l1 + 1)), none, none] [] (sI (sI h (hR h l0 30) (Int32.toNatClampNeg l1) 0) (hR h l0 31) (Int32.toNatClampNeg l1) 0) Z)
    (c10 : (¬ 50 ≤ l1) → (l1 < (hI h l0 28)) → (¬ l1 < (hI (sI h (hR h l0 30) (Int32.toNatClampNeg l1) 0) l0 29)) → vp_in l1 (hL h (hR h l0 31)))
    (k11 : (¬ 50 ≤ l1) → (l1 < (hI h l0 28)) → (¬ l1 < (hI (sI h (hR h l0 30) (Int32.toNatClampNeg l1) 0) l0 29)) → RR G nc ns m_X6_improve 96 [some (.ref l0), some (.int (l1 + 1)), none, none] [] (sI (sI h (hR h l0 30) (Int32.toNatClampNeg l1) 0) (hR h l0 31) (Int32.toNatClampNeg l1) 1) Z)
    (c12 : (¬ 50 ≤ l1) → (¬ l1 < (hI h l0 28)) → vp_in l1 (hL h (hR h l0 30)))
    (c13 : (¬ 50 ≤ l1) → (¬ l1 < (hI h l0 28)) → (l1 < (hI (sI h (hR h l0 30) (Int32.toNatClampNeg l1) 1) l0 29)) → vp_in l1 (hL h (hR h l0 31)))
    (k14 : (¬ 50 ≤ l1) → (¬ l1 < (hI h l0 28)) → (l1 < (hI (sI h (hR h l0 30) (Int32.toNatClampNeg l1) 1) l0 29)) → RR G nc ns m_X6_improve 96 [some (.ref l0), some (.int (l1 + 1)), none, none] [] (sI (sI h (hR h l0 30) (Int32.toNatClampNeg l1) 1) (hR h l0 31) (Int32.toNatClampNeg l1) 0) Z)
    (c15 : (¬ 50 ≤ l1) → (¬ l1 < (hI h l0 28)) → (¬ l1 < (hI (sI h (hR h l0 30) (Int32.toNatClampNeg l1) 1) l0 29)) → vp_in l1 (hL h (hR h l0 31)))
    (k16 : (¬ 50 ≤ l1) → (¬ l1 < (hI h l0 28)) → (¬ l1 < (hI (sI h (hR h l0 30) (Int32.toNatClampNeg l1) 1) l0 29)) → RR G nc ns m_X6_improve 96 [some (.ref l0), some (.int (l1 + 1)), none, none] [] (sI (sI h (hR h l0 30) (Int32.toNatClampNeg l1) 1) (hR h l0 31) (Int32.toNatClampNeg l1) 1) Z) :
    RR G nc ns m_X6_improve 96 [some (.ref l0), some (.int l1), none, none] [] h Z := by
  refine r_iload_n dX6_improve_96 rfl ?_
  refine r_bipush (v := 50) dX6_improve_97 (by decide) ?_
  refine r_icmp_ge 146 dX6_improve_99 (by decide) (fun q1 => ?_) (fun q1 => ?_)
  · exact r_return dX6_improve_146 rfl (k1 q1)
  · refine r_aload_n dX6_improve_102 rfl ?_
    refine r_getR (c := 6) (k := 30) dX6_improve_103 rfl rfl (by decide) fl_RX6_67 (c2) rfl (c3) ?_
    refine r_iload_n dX6_improve_106 rfl ?_
    refine r_iload_n dX6_improve_107 rfl ?_
    refine r_aload_n dX6_improve_108 rfl ?_
    refine r_get (c := 6) (k := 28) dX6_improve_109 rfl rfl (by decide) fl_RX6_91 (c2) rfl ?_
    refine r_icmp_lt 119 dX6_improve_112 (by decide) (fun q2 => ?_) (fun q2 => ?_)
    · refine r_iconst (v := 0) dX6_improve_119 (by decide) ?_
      refine r_bastoreJ (Int32.toNatClampNeg l1) dX6_improve_120 (c4) (c5 q1 q2) rfl (by decide) ?_
      refine r_aload_n dX6_improve_121 rfl ?_
      refine r_getR (c := 6) (k := 31) dX6_improve_122 rfl rfl (by decide) fl_RX6_70 (c2) rfl (c6) ?_
      refine r_iload_n dX6_improve_125 rfl ?_
      refine r_iload_n dX6_improve_126 rfl ?_
      refine r_aload_n dX6_improve_127 rfl ?_
      refine r_get (c := 6) (k := 29) dX6_improve_128 rfl rfl (by decide) fl_RX6_95 (c2) rfl ?_
      refine r_icmp_lt 138 dX6_improve_131 (by decide) (fun q3 => ?_) (fun q3 => ?_)
      · refine r_iconst (v := 0) dX6_improve_138 (by decide) ?_
        refine r_bastoreJ (Int32.toNatClampNeg l1) dX6_improve_139 (c7) (c8 q1 q2 q3) rfl (by decide) ?_
        refine r_iincL (v := l1 + 1) [some (.ref l0), some (.int (l1 + 1)), none, none] dX6_improve_140 rfl (by decide) rfl rfl ?_
        refine r_goto (tgt := 96) dX6_improve_143 (by decide) ?_
        exact k9 q1 q2 q3
      · refine r_iconst (v := 1) dX6_improve_134 (by decide) ?_
        refine r_goto (tgt := 139) dX6_improve_135 (by decide) ?_
        refine r_bastoreJ (Int32.toNatClampNeg l1) dX6_improve_139 (c7) (c10 q1 q2 q3) rfl (by decide) ?_
        refine r_iincL (v := l1 + 1) [some (.ref l0), some (.int (l1 + 1)), none, none] dX6_improve_140 rfl (by decide) rfl rfl ?_
        refine r_goto (tgt := 96) dX6_improve_143 (by decide) ?_
        exact k11 q1 q2 q3
    · refine r_iconst (v := 1) dX6_improve_115 (by decide) ?_
      refine r_goto (tgt := 120) dX6_improve_116 (by decide) ?_
      refine r_bastoreJ (Int32.toNatClampNeg l1) dX6_improve_120 (c4) (c12 q1 q2) rfl (by decide) ?_
      refine r_aload_n dX6_improve_121 rfl ?_
      refine r_getR (c := 6) (k := 31) dX6_improve_122 rfl rfl (by decide) fl_RX6_70 (c2) rfl (c6) ?_
      refine r_iload_n dX6_improve_125 rfl ?_
      refine r_iload_n dX6_improve_126 rfl ?_
      refine r_aload_n dX6_improve_127 rfl ?_
      refine r_get (c := 6) (k := 29) dX6_improve_128 rfl rfl (by decide) fl_RX6_95 (c2) rfl ?_
      refine r_icmp_lt 138 dX6_improve_131 (by decide) (fun q4 => ?_) (fun q4 => ?_)
      · refine r_iconst (v := 0) dX6_improve_138 (by decide) ?_
        refine r_bastoreJ (Int32.toNatClampNeg l1) dX6_improve_139 (c7) (c13 q1 q2 q4) rfl (by decide) ?_
        refine r_iincL (v := l1 + 1) [some (.ref l0), some (.int (l1 + 1)), none, none] dX6_improve_140 rfl (by decide) rfl rfl ?_
        refine r_goto (tgt := 96) dX6_improve_143 (by decide) ?_
        exact k14 q1 q2 q4
      · refine r_iconst (v := 1) dX6_improve_134 (by decide) ?_
        refine r_goto (tgt := 139) dX6_improve_135 (by decide) ?_
        refine r_bastoreJ (Int32.toNatClampNeg l1) dX6_improve_139 (c7) (c15 q1 q2 q4) rfl (by decide) ?_
        refine r_iincL (v := l1 + 1) [some (.ref l0), some (.int (l1 + 1)), none, none] dX6_improve_140 rfl (by decide) rfl rfl ?_
        refine r_goto (tgt := 96) dX6_improve_143 (by decide) ?_
        exact k16 q1 q2 q4

set_option maxRecDepth 20000 in
set_option maxHeartbeats 2000000 in
theorem s_X6_work_0 {G : GG} {nc ns : Nat} {h : PH} {Z : Option Value → PH → Prop} {l0 : Nat} {P1 : PH → Prop}
    (c1 : hK h l0 = 16)
    (c2 : (hR h l0 2) ≠ 0)
    (e3 : ((hI h l0 3) = 0) → Ev G m_X6_use [.ref l0, .ref (hR h l0 2), .int (hI h l0 0), .int (hI h l0 1)] h 0 0 (RV P1))
    (k4 : ((hI h l0 3) = 0) → ∀ (h1 : PH), P1 h1 → hN h1 = (hN h) → hS h1 = (hS h) → RR G nc ns m_X6_work 24 [some (.ref l0), none, none] [] h1 Z)
    (k5 : (¬ (hI h l0 3) = 0) → Z none h) :
    RR G nc ns m_X6_work 0 [some (.ref l0), none, none] [] h Z := by
  refine r_aload_n dX6_work_0 rfl ?_
  refine r_get (c := 6) (k := 3) dX6_work_1 rfl rfl (by decide) fl_RX6_122 (c1) rfl ?_
  refine r_if_eq 8 dX6_work_4 (by decide) (fun q1 => ?_) (fun q1 => ?_)
  · refine r_aload_n dX6_work_8 rfl ?_
    refine r_aload_n dX6_work_9 rfl ?_
    refine r_getR (c := 6) (k := 2) dX6_work_10 rfl rfl (by decide) fl_RX6_7 (c1) rfl (c2) ?_
    refine r_aload_n dX6_work_13 rfl ?_
    refine r_get (c := 6) (k := 0) dX6_work_14 rfl rfl (by decide) fl_RX6_126 (c1) rfl ?_
    refine r_aload_n dX6_work_17 rfl ?_
    refine r_get (c := 6) (k := 1) dX6_work_18 rfl rfl (by decide) fl_RX6_129 (c1) rfl ?_
    refine r_callV (c := 6) (mc := 0) (ms := 0) dX6_work_21 ck_X6_use iv_X6_use sl_X6_use lk_RX6_132 rfl rfl (c1) (by decide) (by decide) (As := [.ref (hR h l0 2), .int (hI h l0 0), .int (hI h l0 1)]) rfl rfl (Nat.le_of_ble_eq_true rfl) (Or.inl rfl) (Or.inl rfl) (e3 q1) ?_
    rintro v1 h1 ⟨rfl, z1⟩ n1 t1
    exact k4 q1 h1 z1 n1 t1
  · exact r_return dX6_work_7 rfl (k5 q1)

set_option maxRecDepth 20000 in
set_option maxHeartbeats 2000000 in
theorem s_X6_work_24 {G : GG} {nc ns : Nat} {h : PH} {Z : Option Value → PH → Prop} {l0 : Nat} {P1 : Int32 → PH → Prop}
    (e1 : Ev G m_X6_growAll [.ref l0] h 0 0 (RI P1))
    (c2 : hK h l0 = 16)
    (k3 : ∀ (x1 : Int32) (h1 : PH), P1 x1 h1 → hN h1 = (hN h) → hS h1 = (hS h) → RR G nc ns m_X6_work 28 [some (.ref l0), none, none] [.int x1] h1 Z) :
    RR G nc ns m_X6_work 24 [some (.ref l0), none, none] [] h Z := by
  refine r_aload_n dX6_work_24 rfl ?_
  refine r_callV (c := 6) (mc := 0) (ms := 0) dX6_work_25 ck_X6_growAll iv_X6_growAll sl_X6_growAll lk_RX6_136 rfl rfl (c2) (by decide) (by decide) (As := []) rfl rfl (Nat.le_of_ble_eq_true rfl) (Or.inl rfl) (Or.inl rfl) (e1) ?_
  rintro v1 h1 ⟨x1, rfl, z1⟩ n1 t1
  exact k3 x1 h1 z1 n1 t1

set_option maxRecDepth 20000 in
set_option maxHeartbeats 2000000 in
theorem s_X6_work_28 {G : GG} {nc ns : Nat} {h : PH} {Z : Option Value → PH → Prop} {l0 : Nat} {s0 : Int32}
    (c1 : hK h l0 = 16)
    (k2 : RR G nc ns m_X6_work 46 [some (.ref l0), some (.int s0), some (.int 0)] [] (sI (sI (sI h l0 3 1) l0 14 0) l0 4 s0) Z) :
    RR G nc ns m_X6_work 28 [some (.ref l0), none, none] [.int s0] h Z := by
  refine r_istore_nL [some (.ref l0), some (.int s0), none] dX6_work_28 (by decide) rfl ?_
  refine r_aload_n dX6_work_29 rfl ?_
  refine r_iconst (v := 1) dX6_work_30 (by decide) ?_
  refine r_putI (c := 6) (k := 3) dX6_work_31 rfl rfl (by decide) fl_RX6_122 (c1) (Or.inl rfl) (Or.inr ⟨rfl, by decide⟩) ?_
  refine r_aload_n dX6_work_34 rfl ?_
  refine r_iconst (v := 0) dX6_work_35 (by decide) ?_
  refine r_putI (c := 6) (k := 14) dX6_work_36 rfl rfl (by decide) fl_RX6_140 (c1) (Or.inl rfl) (Or.inr ⟨rfl, by decide⟩) ?_
  refine r_aload_n dX6_work_39 rfl ?_
  refine r_iload_n dX6_work_40 rfl ?_
  refine r_putI (c := 6) (k := 4) dX6_work_41 rfl rfl (by decide) fl_RX6_143 (c1) (Or.inl rfl) (Or.inl rfl) ?_
  refine r_iconst (v := 0) dX6_work_44 (by decide) ?_
  refine r_istore_nL [some (.ref l0), some (.int s0), some (.int 0)] dX6_work_45 (by decide) rfl ?_
  exact k2

set_option maxRecDepth 20000 in
set_option maxHeartbeats 2000000 in
theorem s_X6_work_46 {G : GG} {nc ns : Nat} {h : PH} {Z : Option Value → PH → Prop} {l0 : Nat} {l1 : Int32} {l2 : Int32} {P1 : Int32 → PH → Prop}
    (c1 : hK h l0 = 16)
    (k2 : ((hI h l0 0) ≤ l2) → RR G nc ns m_X6_work 74 [some (.ref l0), some (.int l1), some (.int 0)] [] h Z)
    (c3 : (hR h l0 7) ≠ 0)
    (e4 : (¬ (hI h l0 0) ≤ l2) → Ev G m_X6_canMiss [.ref l0, .int 1, .int l2] h 0 0 (RI P1))
    (k5 : (¬ (hI h l0 0) ≤ l2) → ∀ (x1 : Int32) (h1 : PH), P1 x1 h1 → hN h1 = (hN h) → hS h1 = (hS h) → RR G nc ns m_X6_work 65 [some (.ref l0), some (.int l1), some (.int l2)] [.int x1, .int l2, .ref (hR h l0 7)] h1 Z) :
    RR G nc ns m_X6_work 46 [some (.ref l0), some (.int l1), some (.int l2)] [] h Z := by
  refine r_iload_n dX6_work_46 rfl ?_
  refine r_aload_n dX6_work_47 rfl ?_
  refine r_get (c := 6) (k := 0) dX6_work_48 rfl rfl (by decide) fl_RX6_126 (c1) rfl ?_
  refine r_icmp_ge 72 dX6_work_51 (by decide) (fun q1 => ?_) (fun q1 => ?_)
  · refine r_iconst (v := 0) dX6_work_72 (by decide) ?_
    refine r_istore_nL [some (.ref l0), some (.int l1), some (.int 0)] dX6_work_73 (by decide) rfl ?_
    exact k2 q1
  · refine r_aload_n dX6_work_54 rfl ?_
    refine r_getR (c := 6) (k := 7) dX6_work_55 rfl rfl (by decide) fl_RX6_20 (c1) rfl (c3) ?_
    refine r_iload_n dX6_work_58 rfl ?_
    refine r_aload_n dX6_work_59 rfl ?_
    refine r_iconst (v := 1) dX6_work_60 (by decide) ?_
    refine r_iload_n dX6_work_61 rfl ?_
    refine r_callV (c := 6) (mc := 0) (ms := 0) dX6_work_62 ck_X6_canMiss iv_X6_canMiss sl_X6_canMiss lk_RX6_146 rfl rfl (c1) (by decide) (by decide) (As := [.int 1, .int l2]) rfl rfl (Nat.le_of_ble_eq_true rfl) (Or.inl rfl) (Or.inl rfl) (e4 q1) ?_
    rintro v1 h1 ⟨x1, rfl, z1⟩ n1 t1
    exact k5 q1 x1 h1 z1 n1 t1

set_option maxRecDepth 20000 in
set_option maxHeartbeats 2000000 in
theorem s_X6_work_65 {G : GG} {nc ns : Nat} {h : PH} {Z : Option Value → PH → Prop} {l0 : Nat} {l1 : Int32} {l2 : Int32} {s0 : Nat} {s1 : Int32} {s2 : Int32}
    (c1 : hK h s0 = 4)
    (c2 : vp_in s1 (hL h s0))
    (c3 : (s2 = 0 ∨ s2 = 1))
    (k4 : RR G nc ns m_X6_work 46 [some (.ref l0), some (.int l1), some (.int (l2 + 1))] [] (sI h s0 (Int32.toNatClampNeg s1) s2) Z) :
    RR G nc ns m_X6_work 65 [some (.ref l0), some (.int l1), some (.int l2)] [.int s2, .int s1, .ref s0] h Z := by
  refine r_bastoreJ (Int32.toNatClampNeg s1) dX6_work_65 (c1) (c2) rfl (c3) ?_
  refine r_iincL (v := l2 + 1) [some (.ref l0), some (.int l1), some (.int (l2 + 1))] dX6_work_66 rfl (by decide) rfl rfl ?_
  refine r_goto (tgt := 46) dX6_work_69 (by decide) ?_
  exact k4

set_option maxRecDepth 20000 in
set_option maxHeartbeats 2000000 in
theorem s_X6_work_74 {G : GG} {nc ns : Nat} {h : PH} {Z : Option Value → PH → Prop} {l0 : Nat} {l1 : Int32} {l2 : Int32} {P1 : PH → Prop} {P2 : Int32 → PH → Prop}
    (c1 : hK h l0 = 16)
    (e2 : ((hI h l0 1) ≤ l2) → Ev G m_X6_parts [.ref l0] h 0 0 (RV P1))
    (k3 : ((hI h l0 1) ≤ l2) → ∀ (h1 : PH), P1 h1 → hN h1 = (hN h) → hS h1 = (hS h) → RR G nc ns m_X6_work 104 [some (.ref l0), some (.int l1), some (.int l2)] [] h1 Z)
    (c4 : (hR h l0 8) ≠ 0)
    (e5 : (¬ (hI h l0 1) ≤ l2) → Ev G m_X6_canMiss [.ref l0, .int 0, .int l2] h 0 0 (RI P2))
    (k6 : (¬ (hI h l0 1) ≤ l2) → ∀ (x2 : Int32) (h2 : PH), P2 x2 h2 → hN h2 = (hN h) → hS h2 = (hS h) → RR G nc ns m_X6_work 93 [some (.ref l0), some (.int l1), some (.int l2)] [.int x2, .int l2, .ref (hR h l0 8)] h2 Z) :
    RR G nc ns m_X6_work 74 [some (.ref l0), some (.int l1), some (.int l2)] [] h Z := by
  refine r_iload_n dX6_work_74 rfl ?_
  refine r_aload_n dX6_work_75 rfl ?_
  refine r_get (c := 6) (k := 1) dX6_work_76 rfl rfl (by decide) fl_RX6_129 (c1) rfl ?_
  refine r_icmp_ge 100 dX6_work_79 (by decide) (fun q1 => ?_) (fun q1 => ?_)
  · refine r_aload_n dX6_work_100 rfl ?_
    refine r_callV (c := 6) (mc := 0) (ms := 0) dX6_work_101 ck_X6_parts iv_X6_parts sl_X6_parts lk_RX6_150 rfl rfl (c1) (by decide) (by decide) (As := []) rfl rfl (Nat.le_of_ble_eq_true rfl) (Or.inl rfl) (Or.inl rfl) (e2 q1) ?_
    rintro v1 h1 ⟨rfl, z1⟩ n1 t1
    exact k3 q1 h1 z1 n1 t1
  · refine r_aload_n dX6_work_82 rfl ?_
    refine r_getR (c := 6) (k := 8) dX6_work_83 rfl rfl (by decide) fl_RX6_23 (c1) rfl (c4) ?_
    refine r_iload_n dX6_work_86 rfl ?_
    refine r_aload_n dX6_work_87 rfl ?_
    refine r_iconst (v := 0) dX6_work_88 (by decide) ?_
    refine r_iload_n dX6_work_89 rfl ?_
    refine r_callV (c := 6) (mc := 0) (ms := 0) dX6_work_90 ck_X6_canMiss iv_X6_canMiss sl_X6_canMiss lk_RX6_146 rfl rfl (c1) (by decide) (by decide) (As := [.int 0, .int l2]) rfl rfl (Nat.le_of_ble_eq_true rfl) (Or.inl rfl) (Or.inl rfl) (e5 q1) ?_
    rintro v2 h2 ⟨x2, rfl, z2⟩ n2 t2
    exact k6 q1 x2 h2 z2 n2 t2

set_option maxRecDepth 20000 in
set_option maxHeartbeats 2000000 in
theorem s_X6_work_93 {G : GG} {nc ns : Nat} {h : PH} {Z : Option Value → PH → Prop} {l0 : Nat} {l1 : Int32} {l2 : Int32} {s0 : Nat} {s1 : Int32} {s2 : Int32}
    (c1 : hK h s0 = 4)
    (c2 : vp_in s1 (hL h s0))
    (c3 : (s2 = 0 ∨ s2 = 1))
    (k4 : RR G nc ns m_X6_work 74 [some (.ref l0), some (.int l1), some (.int (l2 + 1))] [] (sI h s0 (Int32.toNatClampNeg s1) s2) Z) :
    RR G nc ns m_X6_work 93 [some (.ref l0), some (.int l1), some (.int l2)] [.int s2, .int s1, .ref s0] h Z := by
  refine r_bastoreJ (Int32.toNatClampNeg s1) dX6_work_93 (c1) (c2) rfl (c3) ?_
  refine r_iincL (v := l2 + 1) [some (.ref l0), some (.int l1), some (.int (l2 + 1))] dX6_work_94 rfl (by decide) rfl rfl ?_
  refine r_goto (tgt := 74) dX6_work_97 (by decide) ?_
  exact k4

set_option maxRecDepth 20000 in
set_option maxHeartbeats 2000000 in
theorem s_X6_work_104 {G : GG} {nc ns : Nat} {h : PH} {Z : Option Value → PH → Prop} {l0 : Nat} {l1 : Int32} {l2 : Int32} {P1 : PH → Prop}
    (e1 : Ev G m_X6_improve [.ref l0] h 0 0 (RV P1))
    (c2 : hK h l0 = 16)
    (k3 : ∀ (h1 : PH), P1 h1 → hN h1 = (hN h) → hS h1 = (hS h) → RR G nc ns m_X6_work 108 [some (.ref l0), some (.int l1), some (.int l2)] [] h1 Z) :
    RR G nc ns m_X6_work 104 [some (.ref l0), some (.int l1), some (.int l2)] [] h Z := by
  refine r_aload_n dX6_work_104 rfl ?_
  refine r_callV (c := 6) (mc := 0) (ms := 0) dX6_work_105 ck_X6_improve iv_X6_improve sl_X6_improve lk_RX6_153 rfl rfl (c2) (by decide) (by decide) (As := []) rfl rfl (Nat.le_of_ble_eq_true rfl) (Or.inl rfl) (Or.inl rfl) (e1) ?_
  rintro v1 h1 ⟨rfl, z1⟩ n1 t1
  exact k3 h1 z1 n1 t1

set_option maxRecDepth 20000 in
set_option maxHeartbeats 2000000 in
theorem s_X6_work_108 {G : GG} {nc ns : Nat} {h : PH} {Z : Option Value → PH → Prop} {l0 : Nat} {l1 : Int32} {l2 : Int32}
    (k1 : RR G nc ns m_X6_work 110 [some (.ref l0), some (.int l1), some (.int 0)] [] h Z) :
    RR G nc ns m_X6_work 108 [some (.ref l0), some (.int l1), some (.int l2)] [] h Z := by
  refine r_iconst (v := 0) dX6_work_108 (by decide) ?_
  refine r_istore_nL [some (.ref l0), some (.int l1), some (.int 0)] dX6_work_109 (by decide) rfl ?_
  exact k1

set_option maxRecDepth 20000 in
set_option maxHeartbeats 2000000 in
theorem s_X6_work_110 {G : GG} {nc ns : Nat} {h : PH} {Z : Option Value → PH → Prop} {l0 : Nat} {l1 : Int32} {l2 : Int32} {P1 : PH → Prop}
    (e1 : (50 ≤ l2) → Ev G m_X6_blocks [.ref l0] h 0 0 (RV P1))
    (c2 : hK h l0 = 16)
    (k3 : (50 ≤ l2) → ∀ (h1 : PH), P1 h1 → hN h1 = (hN h) → hS h1 = (hS h) → RR G nc ns m_X6_work 150 [some (.ref l0), some (.int l1), some (.int l2)] [] h1 Z)
    (c4 : (hR h l0 5) ≠ 0)
    (c5 : (hR h l0 32) ≠ 0)
    (c6 : hK h (hR h l0 32) = 2)
    (c7 : (¬ 50 ≤ l2) → vp_in l2 (hL h (hR h l0 32)))
    (c8 : hK h (hR h l0 5) = 2)
    (c9 : (¬ 50 ≤ l2) → vp_in l2 (hL h (hR h l0 5)))
    (c10 : (hR h l0 6) ≠ 0)
    (c11 : (hR h l0 33) ≠ 0)
    (c12 : hK h (hR h l0 33) = 2)
    (c13 : (¬ 50 ≤ l2) → vp_in l2 (hL h (hR h l0 33)))
    (c14 : hK h (hR h l0 6) = 2)
    (c15 : (¬ 50 ≤ l2) → vp_in l2 (hL h (hR h l0 6)))
    (k16 : (¬ 50 ≤ l2) → RR G nc ns m_X6_work 110 [some (.ref l0), some (.int l1), some (.int (l2 + 1))] [] (sI (sI h (hR h l0 5) (Int32.toNatClampNeg l2) (hI h (hR h l0 32) (Int32.toNatClampNeg l2))) (hR h l0 6) (Int32.toNatClampNeg l2) (hI (sI h (hR h l0 5) (Int32.toNatClampNeg l2) (hI h (hR h l0 32) (Int32.toNatClampNeg l2))) (hR h l0 33) (Int32.toNatClampNeg l2))) Z) :
    RR G nc ns m_X6_work 110 [some (.ref l0), some (.int l1), some (.int l2)] [] h Z := by
  refine r_iload_n dX6_work_110 rfl ?_
  refine r_bipush (v := 50) dX6_work_111 (by decide) ?_
  refine r_icmp_ge 146 dX6_work_113 (by decide) (fun q1 => ?_) (fun q1 => ?_)
  · refine r_aload_n dX6_work_146 rfl ?_
    refine r_callV (c := 6) (mc := 0) (ms := 0) dX6_work_147 ck_X6_blocks iv_X6_blocks sl_X6_blocks lk_RX6_156 rfl rfl (c2) (by decide) (by decide) (As := []) rfl rfl (Nat.le_of_ble_eq_true rfl) (Or.inl rfl) (Or.inl rfl) (e1 q1) ?_
    rintro v1 h1 ⟨rfl, z1⟩ n1 t1
    exact k3 q1 h1 z1 n1 t1
  · refine r_aload_n dX6_work_116 rfl ?_
    refine r_getR (c := 6) (k := 5) dX6_work_117 rfl rfl (by decide) fl_RX6_13 (c2) rfl (c4) ?_
    refine r_iload_n dX6_work_120 rfl ?_
    refine r_aload_n dX6_work_121 rfl ?_
    refine r_getR (c := 6) (k := 32) dX6_work_122 rfl rfl (by decide) fl_RX6_73 (c2) rfl (c5) ?_
    refine r_iload_n dX6_work_125 rfl ?_
    refine r_ialoadJ (Int32.toNatClampNeg l2) dX6_work_126 (c6) (c7 q1) rfl ?_
    refine r_iastoreJ (Int32.toNatClampNeg l2) dX6_work_127 (c8) (c9 q1) rfl ?_
    refine r_aload_n dX6_work_128 rfl ?_
    refine r_getR (c := 6) (k := 6) dX6_work_129 rfl rfl (by decide) fl_RX6_17 (c2) rfl (c10) ?_
    refine r_iload_n dX6_work_132 rfl ?_
    refine r_aload_n dX6_work_133 rfl ?_
    refine r_getR (c := 6) (k := 33) dX6_work_134 rfl rfl (by decide) fl_RX6_76 (c2) rfl (c11) ?_
    refine r_iload_n dX6_work_137 rfl ?_
    refine r_ialoadJ (Int32.toNatClampNeg l2) dX6_work_138 (c12) (c13 q1) rfl ?_
    refine r_iastoreJ (Int32.toNatClampNeg l2) dX6_work_139 (c14) (c15 q1) rfl ?_
    refine r_iincL (v := l2 + 1) [some (.ref l0), some (.int l1), some (.int (l2 + 1))] dX6_work_140 rfl (by decide) rfl rfl ?_
    refine r_goto (tgt := 110) dX6_work_143 (by decide) ?_
    exact k16 q1

set_option maxRecDepth 20000 in
set_option maxHeartbeats 2000000 in
theorem s_X6_work_150 {G : GG} {nc ns : Nat} {h : PH} {Z : Option Value → PH → Prop} {l0 : Nat} {l1 : Int32} {l2 : Int32}
    (k1 : Z none h) :
    RR G nc ns m_X6_work 150 [some (.ref l0), some (.int l1), some (.int l2)] [] h Z := by
  exact r_return dX6_work_150 rfl (k1)

set_option maxRecDepth 20000 in
set_option maxHeartbeats 2000000 in
theorem s_X6_parts_0 {G : GG} {nc ns : Nat} {h : PH} {Z : Option Value → PH → Prop} {l0 : Nat}
    (k1 : RR G nc ns m_X6_parts 2 [some (.ref l0), some (.int 0), none] [] h Z) :
    RR G nc ns m_X6_parts 0 [some (.ref l0), none, none] [] h Z := by
  refine r_iconst (v := 0) dX6_parts_0 (by decide) ?_
  refine r_istore_nL [some (.ref l0), some (.int 0), none] dX6_parts_1 (by decide) rfl ?_
  exact k1

set_option maxRecDepth 20000 in
set_option maxHeartbeats 2000000 in
theorem s_X6_parts_2 {G : GG} {nc ns : Nat} {h : PH} {Z : Option Value → PH → Prop} {l0 : Nat} {l1 : Int32}
    (c1 : hK h l0 = 16)
    (k2 : ((hI h l0 0) ≤ l1) → RR G nc ns m_X6_parts 93 [some (.ref l0), some (.int 0), none] [] h Z)
    (c3 : (hR h l0 9) ≠ 0)
    (c4 : (hR h l0 7) ≠ 0)
    (c5 : hK h (hR h l0 7) = 4)
    (c6 : (¬ (hI h l0 0) ≤ l1) → vp_in l1 (hL h (hR h l0 7)))
    (c7 : hK h (hR h l0 9) = 2)
    (c8 : (¬ (hI h l0 0) ≤ l1) → ((hI h (hR h l0 7) (Int32.toNatClampNeg l1)) = 0) → vp_in l1 (hL h (hR h l0 9)))
    (k9 : (¬ (hI h l0 0) ≤ l1) → ((hI h (hR h l0 7) (Int32.toNatClampNeg l1)) = 0) → RR G nc ns m_X6_parts 32 [some (.ref l0), some (.int l1), some (.int 0)] [] (sI h (hR h l0 9) (Int32.toNatClampNeg l1) 1) Z)
    (c10 : (¬ (hI h l0 0) ≤ l1) → (¬ (hI h (hR h l0 7) (Int32.toNatClampNeg l1)) = 0) → vp_in l1 (hL h (hR h l0 9)))
    (k11 : (¬ (hI h l0 0) ≤ l1) → (¬ (hI h (hR h l0 7) (Int32.toNatClampNeg l1)) = 0) → RR G nc ns m_X6_parts 32 [some (.ref l0), some (.int l1), some (.int 0)] [] (sI h (hR h l0 9) (Int32.toNatClampNeg l1) 0) Z) :
    RR G nc ns m_X6_parts 2 [some (.ref l0), some (.int l1), none] [] h Z := by
  refine r_iload_n dX6_parts_2 rfl ?_
  refine r_aload_n dX6_parts_3 rfl ?_
  refine r_get (c := 6) (k := 0) dX6_parts_4 rfl rfl (by decide) fl_RX6_126 (c1) rfl ?_
  refine r_icmp_ge 91 dX6_parts_7 (by decide) (fun q1 => ?_) (fun q1 => ?_)
  · refine r_iconst (v := 0) dX6_parts_91 (by decide) ?_
    refine r_istore_nL [some (.ref l0), some (.int 0), none] dX6_parts_92 (by decide) rfl ?_
    exact k2 q1
  · refine r_aload_n dX6_parts_10 rfl ?_
    refine r_getR (c := 6) (k := 9) dX6_parts_11 rfl rfl (by decide) fl_RX6_26 (c1) rfl (c3) ?_
    refine r_iload_n dX6_parts_14 rfl ?_
    refine r_aload_n dX6_parts_15 rfl ?_
    refine r_getR (c := 6) (k := 7) dX6_parts_16 rfl rfl (by decide) fl_RX6_20 (c1) rfl (c4) ?_
    refine r_iload_n dX6_parts_19 rfl ?_
    refine r_baloadJ (Int32.toNatClampNeg l1) dX6_parts_20 (c5) (c6 q1) rfl ?_
    refine r_if_eq 28 dX6_parts_21 (by decide) (fun q2 => ?_) (fun q2 => ?_)
    · refine r_iconst (v := 1) dX6_parts_28 (by decide) ?_
      refine r_iastoreJ (Int32.toNatClampNeg l1) dX6_parts_29 (c7) (c8 q1 q2) rfl ?_
      refine r_iconst (v := 0) dX6_parts_30 (by decide) ?_
      refine r_istore_nL [some (.ref l0), some (.int l1), some (.int 0)] dX6_parts_31 (by decide) rfl ?_
      exact k9 q1 q2
    · refine r_iconst (v := 0) dX6_parts_24 (by decide) ?_
      refine r_goto (tgt := 29) dX6_parts_25 (by decide) ?_
      refine r_iastoreJ (Int32.toNatClampNeg l1) dX6_parts_29 (c7) (c10 q1 q2) rfl ?_
      refine r_iconst (v := 0) dX6_parts_30 (by decide) ?_
      refine r_istore_nL [some (.ref l0), some (.int l1), some (.int 0)] dX6_parts_31 (by decide) rfl ?_
      exact k11 q1 q2

set_option maxRecDepth 20000 in
set_option maxHeartbeats 2000000 in
theorem s_X6_parts_32 {G : GG} {nc ns : Nat} {h : PH} {Z : Option Value → PH → Prop} {l0 : Nat} {l1 : Int32} {l2 : Int32}
    (c1 : hK h l0 = 16)
    (k2 : ((hI h l0 1) ≤ l2) → RR G nc ns m_X6_parts 2 [some (.ref l0), some (.int (l1 + 1)), none] [] h Z)
    (c3 : (hR h l0 9) ≠ 0)
    (c4 : (hR h l0 2) ≠ 0)
    (c5 : hK h (hR h l0 2) = 4)
    (c6 : (¬ (hI h l0 1) ≤ l2) → vp_in ((50 * l1) + l2) (hL h (hR h l0 2)))
    (c7 : hK h (hR h l0 9) = 2)
    (c8 : (¬ (hI h l0 1) ≤ l2) → ((hI h (hR h l0 2) (Int32.toNatClampNeg ((50 * l1) + l2))) = 0) → vp_in l1 (hL h (hR h l0 9)))
    (k9 : (¬ (hI h l0 1) ≤ l2) → ((hI h (hR h l0 2) (Int32.toNatClampNeg ((50 * l1) + l2))) = 0) → RR G nc ns m_X6_parts 32 [some (.ref l0), some (.int l1), some (.int (l2 + 1))] [] (sI h (hR h l0 9) (Int32.toNatClampNeg l1) (hI h (hR h l0 9) (Int32.toNatClampNeg l1))) Z)
    (c10 : (hR h l0 8) ≠ 0)
    (c11 : hK h (hR h l0 8) = 4)
    (c12 : (¬ (hI h l0 1) ≤ l2) → (¬ (hI h (hR h l0 2) (Int32.toNatClampNeg ((50 * l1) + l2))) = 0) → vp_in l2 (hL h (hR h l0 8)))
    (c13 : (¬ (hI h l0 1) ≤ l2) → (¬ (hI h (hR h l0 2) (Int32.toNatClampNeg ((50 * l1) + l2))) = 0) → ((hI h (hR h l0 8) (Int32.toNatClampNeg l2)) = 0) → vp_in l1 (hL h (hR h l0 9)))
    (c14 : (¬ (hI h l0 1) ≤ l2) → (¬ (hI h (hR h l0 2) (Int32.toNatClampNeg ((50 * l1) + l2))) = 0) → ((hI h (hR h l0 8) (Int32.toNatClampNeg l2)) = 0) → vp_in l1 (hL h (hR h l0 9)))
    (k15 : (¬ (hI h l0 1) ≤ l2) → (¬ (hI h (hR h l0 2) (Int32.toNatClampNeg ((50 * l1) + l2))) = 0) → ((hI h (hR h l0 8) (Int32.toNatClampNeg l2)) = 0) → RR G nc ns m_X6_parts 32 [some (.ref l0), some (.int l1), some (.int (l2 + 1))] [] (sI h (hR h l0 9) (Int32.toNatClampNeg l1) (hI h (hR h l0 9) (Int32.toNatClampNeg l1))) Z)
    (c16 : (¬ (hI h l0 1) ≤ l2) → (¬ (hI h (hR h l0 2) (Int32.toNatClampNeg ((50 * l1) + l2))) = 0) → (¬ (hI h (hR h l0 8) (Int32.toNatClampNeg l2)) = 0) → vp_in l1 (hL h (hR h l0 9)))
    (k17 : (¬ (hI h l0 1) ≤ l2) → (¬ (hI h (hR h l0 2) (Int32.toNatClampNeg ((50 * l1) + l2))) = 0) → (¬ (hI h (hR h l0 8) (Int32.toNatClampNeg l2)) = 0) → RR G nc ns m_X6_parts 32 [some (.ref l0), some (.int l1), some (.int (l2 + 1))] [] (sI h (hR h l0 9) (Int32.toNatClampNeg l1) 2) Z) :
    RR G nc ns m_X6_parts 32 [some (.ref l0), some (.int l1), some (.int l2)] [] h Z := by
  refine r_iload_n dX6_parts_32 rfl ?_
  refine r_aload_n dX6_parts_33 rfl ?_
  refine r_get (c := 6) (k := 1) dX6_parts_34 rfl rfl (by decide) fl_RX6_129 (c1) rfl ?_
  refine r_icmp_ge 85 dX6_parts_37 (by decide) (fun q1 => ?_) (fun q1 => ?_)
  · refine r_iincL (v := l1 + 1) [some (.ref l0), some (.int (l1 + 1)), some (.int l2)] dX6_parts_85 rfl (by decide) rfl rfl ?_
    refine r_goto (tgt := 2) dX6_parts_88 (by decide) ?_
    exact RR.sub (k2 q1) (And.intro rfl (And.intro rfl (trivial)))
  · refine r_aload_n dX6_parts_40 rfl ?_
    refine r_getR (c := 6) (k := 9) dX6_parts_41 rfl rfl (by decide) fl_RX6_26 (c1) rfl (c3) ?_
    refine r_iload_n dX6_parts_44 rfl ?_
    refine r_aload_n dX6_parts_45 rfl ?_
    refine r_getR (c := 6) (k := 2) dX6_parts_46 rfl rfl (by decide) fl_RX6_7 (c1) rfl (c4) ?_
    refine r_bipush (v := 50) dX6_parts_49 (by decide) ?_
    refine r_iload_n dX6_parts_51 rfl ?_
    refine r_imul dX6_parts_52 ?_
    refine r_iload_n dX6_parts_53 rfl ?_
    refine r_iadd dX6_parts_54 ?_
    refine r_baloadJ (Int32.toNatClampNeg ((50 * l1) + l2)) dX6_parts_55 (c5) (c6 q1) rfl ?_
    refine r_if_eq 72 dX6_parts_56 (by decide) (fun q2 => ?_) (fun q2 => ?_)
    · refine r_aload_n dX6_parts_72 rfl ?_
      refine r_getR (c := 6) (k := 9) dX6_parts_73 rfl rfl (by decide) fl_RX6_26 (c1) rfl (c3) ?_
      refine r_iload_n dX6_parts_76 rfl ?_
      refine r_ialoadJ (Int32.toNatClampNeg l1) dX6_parts_77 (c7) (c8 q1 q2) rfl ?_
      refine r_iastoreJ (Int32.toNatClampNeg l1) dX6_parts_78 (c7) (c8 q1 q2) rfl ?_
      refine r_iincL (v := l2 + 1) [some (.ref l0), some (.int l1), some (.int (l2 + 1))] dX6_parts_79 rfl (by decide) rfl rfl ?_
      refine r_goto (tgt := 32) dX6_parts_82 (by decide) ?_
      exact k9 q1 q2
    · refine r_aload_n dX6_parts_59 rfl ?_
      refine r_getR (c := 6) (k := 8) dX6_parts_60 rfl rfl (by decide) fl_RX6_23 (c1) rfl (c10) ?_
      refine r_iload_n dX6_parts_63 rfl ?_
      refine r_baloadJ (Int32.toNatClampNeg l2) dX6_parts_64 (c11) (c12 q1 q2) rfl ?_
      refine r_if_eq 72 dX6_parts_65 (by decide) (fun q3 => ?_) (fun q3 => ?_)
      · refine r_aload_n dX6_parts_72 rfl ?_
        refine r_getR (c := 6) (k := 9) dX6_parts_73 rfl rfl (by decide) fl_RX6_26 (c1) rfl (c3) ?_
        refine r_iload_n dX6_parts_76 rfl ?_
        refine r_ialoadJ (Int32.toNatClampNeg l1) dX6_parts_77 (c7) (c13 q1 q2 q3) rfl ?_
        refine r_iastoreJ (Int32.toNatClampNeg l1) dX6_parts_78 (c7) (c14 q1 q2 q3) rfl ?_
        refine r_iincL (v := l2 + 1) [some (.ref l0), some (.int l1), some (.int (l2 + 1))] dX6_parts_79 rfl (by decide) rfl rfl ?_
        refine r_goto (tgt := 32) dX6_parts_82 (by decide) ?_
        exact k15 q1 q2 q3
      · refine r_iconst (v := 2) dX6_parts_68 (by decide) ?_
        refine r_goto (tgt := 78) dX6_parts_69 (by decide) ?_
        refine r_iastoreJ (Int32.toNatClampNeg l1) dX6_parts_78 (c7) (c16 q1 q2 q3) rfl ?_
        refine r_iincL (v := l2 + 1) [some (.ref l0), some (.int l1), some (.int (l2 + 1))] dX6_parts_79 rfl (by decide) rfl rfl ?_
        refine r_goto (tgt := 32) dX6_parts_82 (by decide) ?_
        exact k17 q1 q2 q3

set_option maxRecDepth 20000 in
set_option maxHeartbeats 2000000 in
theorem s_X6_parts_93 {G : GG} {nc ns : Nat} {h : PH} {Z : Option Value → PH → Prop} {l0 : Nat} {l1 : Int32}
    (c1 : hK h l0 = 16)
    (k2 : ((hI h l0 1) ≤ l1) → Z none h)
    (c3 : (hR h l0 10) ≠ 0)
    (c4 : (hR h l0 8) ≠ 0)
    (c5 : hK h (hR h l0 8) = 4)
    (c6 : (¬ (hI h l0 1) ≤ l1) → vp_in l1 (hL h (hR h l0 8)))
    (c7 : hK h (hR h l0 10) = 2)
    (c8 : (¬ (hI h l0 1) ≤ l1) → ((hI h (hR h l0 8) (Int32.toNatClampNeg l1)) = 0) → vp_in l1 (hL h (hR h l0 10)))
    (k9 : (¬ (hI h l0 1) ≤ l1) → ((hI h (hR h l0 8) (Int32.toNatClampNeg l1)) = 0) → RR G nc ns m_X6_parts 123 [some (.ref l0), some (.int l1), some (.int 0)] [] (sI h (hR h l0 10) (Int32.toNatClampNeg l1) 1) Z)
    (c10 : (¬ (hI h l0 1) ≤ l1) → (¬ (hI h (hR h l0 8) (Int32.toNatClampNeg l1)) = 0) → vp_in l1 (hL h (hR h l0 10)))
    (k11 : (¬ (hI h l0 1) ≤ l1) → (¬ (hI h (hR h l0 8) (Int32.toNatClampNeg l1)) = 0) → RR G nc ns m_X6_parts 123 [some (.ref l0), some (.int l1), some (.int 0)] [] (sI h (hR h l0 10) (Int32.toNatClampNeg l1) 2) Z) :
    RR G nc ns m_X6_parts 93 [some (.ref l0), some (.int l1), none] [] h Z := by
  refine r_iload_n dX6_parts_93 rfl ?_
  refine r_aload_n dX6_parts_94 rfl ?_
  refine r_get (c := 6) (k := 1) dX6_parts_95 rfl rfl (by decide) fl_RX6_129 (c1) rfl ?_
  refine r_icmp_ge 182 dX6_parts_98 (by decide) (fun q1 => ?_) (fun q1 => ?_)
  · exact r_return dX6_parts_182 rfl (k2 q1)
  · refine r_aload_n dX6_parts_101 rfl ?_
    refine r_getR (c := 6) (k := 10) dX6_parts_102 rfl rfl (by decide) fl_RX6_29 (c1) rfl (c3) ?_
    refine r_iload_n dX6_parts_105 rfl ?_
    refine r_aload_n dX6_parts_106 rfl ?_
    refine r_getR (c := 6) (k := 8) dX6_parts_107 rfl rfl (by decide) fl_RX6_23 (c1) rfl (c4) ?_
    refine r_iload_n dX6_parts_110 rfl ?_
    refine r_baloadJ (Int32.toNatClampNeg l1) dX6_parts_111 (c5) (c6 q1) rfl ?_
    refine r_if_eq 119 dX6_parts_112 (by decide) (fun q2 => ?_) (fun q2 => ?_)
    · refine r_iconst (v := 1) dX6_parts_119 (by decide) ?_
      refine r_iastoreJ (Int32.toNatClampNeg l1) dX6_parts_120 (c7) (c8 q1 q2) rfl ?_
      refine r_iconst (v := 0) dX6_parts_121 (by decide) ?_
      refine r_istore_nL [some (.ref l0), some (.int l1), some (.int 0)] dX6_parts_122 (by decide) rfl ?_
      exact k9 q1 q2
    · refine r_iconst (v := 2) dX6_parts_115 (by decide) ?_
      refine r_goto (tgt := 120) dX6_parts_116 (by decide) ?_
      refine r_iastoreJ (Int32.toNatClampNeg l1) dX6_parts_120 (c7) (c10 q1 q2) rfl ?_
      refine r_iconst (v := 0) dX6_parts_121 (by decide) ?_
      refine r_istore_nL [some (.ref l0), some (.int l1), some (.int 0)] dX6_parts_122 (by decide) rfl ?_
      exact k11 q1 q2

set_option maxRecDepth 20000 in
set_option maxHeartbeats 2000000 in
theorem s_X6_parts_123 {G : GG} {nc ns : Nat} {h : PH} {Z : Option Value → PH → Prop} {l0 : Nat} {l1 : Int32} {l2 : Int32}
    (c1 : hK h l0 = 16)
    (k2 : ((hI h l0 0) ≤ l2) → RR G nc ns m_X6_parts 93 [some (.ref l0), some (.int (l1 + 1)), none] [] h Z)
    (c3 : (hR h l0 10) ≠ 0)
    (c4 : (hR h l0 2) ≠ 0)
    (c5 : hK h (hR h l0 2) = 4)
    (c6 : (¬ (hI h l0 0) ≤ l2) → vp_in ((50 * l2) + l1) (hL h (hR h l0 2)))
    (c7 : hK h (hR h l0 10) = 2)
    (c8 : (¬ (hI h l0 0) ≤ l2) → ((hI h (hR h l0 2) (Int32.toNatClampNeg ((50 * l2) + l1))) = 0) → vp_in l1 (hL h (hR h l0 10)))
    (k9 : (¬ (hI h l0 0) ≤ l2) → ((hI h (hR h l0 2) (Int32.toNatClampNeg ((50 * l2) + l1))) = 0) → RR G nc ns m_X6_parts 123 [some (.ref l0), some (.int l1), some (.int (l2 + 1))] [] (sI h (hR h l0 10) (Int32.toNatClampNeg l1) (hI h (hR h l0 10) (Int32.toNatClampNeg l1))) Z)
    (c10 : (hR h l0 7) ≠ 0)
    (c11 : hK h (hR h l0 7) = 4)
    (c12 : (¬ (hI h l0 0) ≤ l2) → (¬ (hI h (hR h l0 2) (Int32.toNatClampNeg ((50 * l2) + l1))) = 0) → vp_in l2 (hL h (hR h l0 7)))
    (c13 : (¬ (hI h l0 0) ≤ l2) → (¬ (hI h (hR h l0 2) (Int32.toNatClampNeg ((50 * l2) + l1))) = 0) → ((hI h (hR h l0 7) (Int32.toNatClampNeg l2)) = 0) → vp_in l1 (hL h (hR h l0 10)))
    (c14 : (¬ (hI h l0 0) ≤ l2) → (¬ (hI h (hR h l0 2) (Int32.toNatClampNeg ((50 * l2) + l1))) = 0) → ((hI h (hR h l0 7) (Int32.toNatClampNeg l2)) = 0) → vp_in l1 (hL h (hR h l0 10)))
    (k15 : (¬ (hI h l0 0) ≤ l2) → (¬ (hI h (hR h l0 2) (Int32.toNatClampNeg ((50 * l2) + l1))) = 0) → ((hI h (hR h l0 7) (Int32.toNatClampNeg l2)) = 0) → RR G nc ns m_X6_parts 123 [some (.ref l0), some (.int l1), some (.int (l2 + 1))] [] (sI h (hR h l0 10) (Int32.toNatClampNeg l1) (hI h (hR h l0 10) (Int32.toNatClampNeg l1))) Z)
    (c16 : (¬ (hI h l0 0) ≤ l2) → (¬ (hI h (hR h l0 2) (Int32.toNatClampNeg ((50 * l2) + l1))) = 0) → (¬ (hI h (hR h l0 7) (Int32.toNatClampNeg l2)) = 0) → vp_in l1 (hL h (hR h l0 10)))
    (k17 : (¬ (hI h l0 0) ≤ l2) → (¬ (hI h (hR h l0 2) (Int32.toNatClampNeg ((50 * l2) + l1))) = 0) → (¬ (hI h (hR h l0 7) (Int32.toNatClampNeg l2)) = 0) → RR G nc ns m_X6_parts 123 [some (.ref l0), some (.int l1), some (.int (l2 + 1))] [] (sI h (hR h l0 10) (Int32.toNatClampNeg l1) 0) Z) :
    RR G nc ns m_X6_parts 123 [some (.ref l0), some (.int l1), some (.int l2)] [] h Z := by
  refine r_iload_n dX6_parts_123 rfl ?_
  refine r_aload_n dX6_parts_124 rfl ?_
  refine r_get (c := 6) (k := 0) dX6_parts_125 rfl rfl (by decide) fl_RX6_126 (c1) rfl ?_
  refine r_icmp_ge 176 dX6_parts_128 (by decide) (fun q1 => ?_) (fun q1 => ?_)
  · refine r_iincL (v := l1 + 1) [some (.ref l0), some (.int (l1 + 1)), some (.int l2)] dX6_parts_176 rfl (by decide) rfl rfl ?_
    refine r_goto (tgt := 93) dX6_parts_179 (by decide) ?_
    exact RR.sub (k2 q1) (And.intro rfl (And.intro rfl (trivial)))
  · refine r_aload_n dX6_parts_131 rfl ?_
    refine r_getR (c := 6) (k := 10) dX6_parts_132 rfl rfl (by decide) fl_RX6_29 (c1) rfl (c3) ?_
    refine r_iload_n dX6_parts_135 rfl ?_
    refine r_aload_n dX6_parts_136 rfl ?_
    refine r_getR (c := 6) (k := 2) dX6_parts_137 rfl rfl (by decide) fl_RX6_7 (c1) rfl (c4) ?_
    refine r_bipush (v := 50) dX6_parts_140 (by decide) ?_
    refine r_iload_n dX6_parts_142 rfl ?_
    refine r_imul dX6_parts_143 ?_
    refine r_iload_n dX6_parts_144 rfl ?_
    refine r_iadd dX6_parts_145 ?_
    refine r_baloadJ (Int32.toNatClampNeg ((50 * l2) + l1)) dX6_parts_146 (c5) (c6 q1) rfl ?_
    refine r_if_eq 163 dX6_parts_147 (by decide) (fun q2 => ?_) (fun q2 => ?_)
    · refine r_aload_n dX6_parts_163 rfl ?_
      refine r_getR (c := 6) (k := 10) dX6_parts_164 rfl rfl (by decide) fl_RX6_29 (c1) rfl (c3) ?_
      refine r_iload_n dX6_parts_167 rfl ?_
      refine r_ialoadJ (Int32.toNatClampNeg l1) dX6_parts_168 (c7) (c8 q1 q2) rfl ?_
      refine r_iastoreJ (Int32.toNatClampNeg l1) dX6_parts_169 (c7) (c8 q1 q2) rfl ?_
      refine r_iincL (v := l2 + 1) [some (.ref l0), some (.int l1), some (.int (l2 + 1))] dX6_parts_170 rfl (by decide) rfl rfl ?_
      refine r_goto (tgt := 123) dX6_parts_173 (by decide) ?_
      exact k9 q1 q2
    · refine r_aload_n dX6_parts_150 rfl ?_
      refine r_getR (c := 6) (k := 7) dX6_parts_151 rfl rfl (by decide) fl_RX6_20 (c1) rfl (c10) ?_
      refine r_iload_n dX6_parts_154 rfl ?_
      refine r_baloadJ (Int32.toNatClampNeg l2) dX6_parts_155 (c11) (c12 q1 q2) rfl ?_
      refine r_if_eq 163 dX6_parts_156 (by decide) (fun q3 => ?_) (fun q3 => ?_)
      · refine r_aload_n dX6_parts_163 rfl ?_
        refine r_getR (c := 6) (k := 10) dX6_parts_164 rfl rfl (by decide) fl_RX6_29 (c1) rfl (c3) ?_
        refine r_iload_n dX6_parts_167 rfl ?_
        refine r_ialoadJ (Int32.toNatClampNeg l1) dX6_parts_168 (c7) (c13 q1 q2 q3) rfl ?_
        refine r_iastoreJ (Int32.toNatClampNeg l1) dX6_parts_169 (c7) (c14 q1 q2 q3) rfl ?_
        refine r_iincL (v := l2 + 1) [some (.ref l0), some (.int l1), some (.int (l2 + 1))] dX6_parts_170 rfl (by decide) rfl rfl ?_
        refine r_goto (tgt := 123) dX6_parts_173 (by decide) ?_
        exact k15 q1 q2 q3
      · refine r_iconst (v := 0) dX6_parts_159 (by decide) ?_
        refine r_goto (tgt := 169) dX6_parts_160 (by decide) ?_
        refine r_iastoreJ (Int32.toNatClampNeg l1) dX6_parts_169 (c7) (c16 q1 q2 q3) rfl ?_
        refine r_iincL (v := l2 + 1) [some (.ref l0), some (.int l1), some (.int (l2 + 1))] dX6_parts_170 rfl (by decide) rfl rfl ?_
        refine r_goto (tgt := 123) dX6_parts_173 (by decide) ?_
        exact k17 q1 q2 q3

set_option maxRecDepth 20000 in
set_option maxHeartbeats 2000000 in
theorem s_X6_blocks_0 {G : GG} {nc ns : Nat} {h : PH} {Z : Option Value → PH → Prop} {l0 : Nat}
    (k1 : RR G nc ns m_X6_blocks 2 [some (.ref l0), some (.int 0), none, none] [] h Z) :
    RR G nc ns m_X6_blocks 0 [some (.ref l0), none, none, none] [] h Z := by
  refine r_iconst (v := 0) dX6_blocks_0 (by decide) ?_
  refine r_istore_nL [some (.ref l0), some (.int 0), none, none] dX6_blocks_1 (by decide) rfl ?_
  exact k1

set_option maxRecDepth 20000 in
set_option maxHeartbeats 2000000 in
theorem s_X6_blocks_2 {G : GG} {nc ns : Nat} {h : PH} {Z : Option Value → PH → Prop} {l0 : Nat} {l1 : Int32}
    (k1 : (2500 ≤ l1) → RR G nc ns m_X6_blocks 24 [some (.ref l0), some (.int 0), none, none] [] h Z)
    (c2 : hK h l0 = 16)
    (c3 : (hR h l0 12) ≠ 0)
    (c4 : hK h (hR h l0 12) = 4)
    (c5 : (¬ 2500 ≤ l1) → vp_in l1 (hL h (hR h l0 12)))
    (k6 : (¬ 2500 ≤ l1) → RR G nc ns m_X6_blocks 2 [some (.ref l0), some (.int (l1 + 1)), none, none] [] (sI h (hR h l0 12) (Int32.toNatClampNeg l1) 0) Z) :
    RR G nc ns m_X6_blocks 2 [some (.ref l0), some (.int l1), none, none] [] h Z := by
  refine r_iload_n dX6_blocks_2 rfl ?_
  refine r_sipush (v := 2500) dX6_blocks_3 (by decide) ?_
  refine r_icmp_ge 22 dX6_blocks_6 (by decide) (fun q1 => ?_) (fun q1 => ?_)
  · refine r_iconst (v := 0) dX6_blocks_22 (by decide) ?_
    refine r_istore_nL [some (.ref l0), some (.int 0), none, none] dX6_blocks_23 (by decide) rfl ?_
    exact k1 q1
  · refine r_aload_n dX6_blocks_9 rfl ?_
    refine r_getR (c := 6) (k := 12) dX6_blocks_10 rfl rfl (by decide) fl_RX6_35 (c2) rfl (c3) ?_
    refine r_iload_n dX6_blocks_13 rfl ?_
    refine r_iconst (v := 0) dX6_blocks_14 (by decide) ?_
    refine r_bastoreJ (Int32.toNatClampNeg l1) dX6_blocks_15 (c4) (c5 q1) rfl (by decide) ?_
    refine r_iincL (v := l1 + 1) [some (.ref l0), some (.int (l1 + 1)), none, none] dX6_blocks_16 rfl (by decide) rfl rfl ?_
    refine r_goto (tgt := 2) dX6_blocks_19 (by decide) ?_
    exact k6 q1

set_option maxRecDepth 20000 in
set_option maxHeartbeats 2000000 in
theorem s_X6_blocks_24 {G : GG} {nc ns : Nat} {h : PH} {Z : Option Value → PH → Prop} {l0 : Nat} {l1 : Int32}
    (c1 : hK h l0 = 16)
    (k2 : ((hI h l0 0) ≤ l1) → RR G nc ns m_X6_blocks 108 [some (.ref l0), some (.int 0), none, none] [] h Z)
    (c3 : (hR h l0 12) ≠ 0)
    (c4 : hK h (hR h l0 12) = 4)
    (c5 : (¬ (hI h l0 0) ≤ l1) → vp_in ((50 * l1) + l1) (hL h (hR h l0 12)))
    (k6 : (¬ (hI h l0 0) ≤ l1) → RR G nc ns m_X6_blocks 46 [some (.ref l0), some (.int l1), some (.int 0), none] [] (sI h (hR h l0 12) (Int32.toNatClampNeg ((50 * l1) + l1)) 1) Z) :
    RR G nc ns m_X6_blocks 24 [some (.ref l0), some (.int l1), none, none] [] h Z := by
  refine r_iload_n dX6_blocks_24 rfl ?_
  refine r_aload_n dX6_blocks_25 rfl ?_
  refine r_get (c := 6) (k := 0) dX6_blocks_26 rfl rfl (by decide) fl_RX6_126 (c1) rfl ?_
  refine r_icmp_ge 106 dX6_blocks_29 (by decide) (fun q1 => ?_) (fun q1 => ?_)
  · refine r_iconst (v := 0) dX6_blocks_106 (by decide) ?_
    refine r_istore_nL [some (.ref l0), some (.int 0), none, none] dX6_blocks_107 (by decide) rfl ?_
    exact k2 q1
  · refine r_aload_n dX6_blocks_32 rfl ?_
    refine r_getR (c := 6) (k := 12) dX6_blocks_33 rfl rfl (by decide) fl_RX6_35 (c1) rfl (c3) ?_
    refine r_bipush (v := 50) dX6_blocks_36 (by decide) ?_
    refine r_iload_n dX6_blocks_38 rfl ?_
    refine r_imul dX6_blocks_39 ?_
    refine r_iload_n dX6_blocks_40 rfl ?_
    refine r_iadd dX6_blocks_41 ?_
    refine r_iconst (v := 1) dX6_blocks_42 (by decide) ?_
    refine r_bastoreJ (Int32.toNatClampNeg ((50 * l1) + l1)) dX6_blocks_43 (c4) (c5 q1) rfl (by decide) ?_
    refine r_iconst (v := 0) dX6_blocks_44 (by decide) ?_
    refine r_istore_nL [some (.ref l0), some (.int l1), some (.int 0), none] dX6_blocks_45 (by decide) rfl ?_
    exact k6 q1

set_option maxRecDepth 20000 in
set_option maxHeartbeats 2000000 in
theorem s_X6_blocks_46 {G : GG} {nc ns : Nat} {h : PH} {Z : Option Value → PH → Prop} {l0 : Nat} {l1 : Int32} {l2 : Int32}
    (c1 : hK h l0 = 16)
    (k2 : ((hI h l0 1) ≤ l2) → RR G nc ns m_X6_blocks 24 [some (.ref l0), some (.int (l1 + 1)), none, none] [] h Z)
    (c3 : (hR h l0 2) ≠ 0)
    (c4 : hK h (hR h l0 2) = 4)
    (c5 : (¬ (hI h l0 1) ≤ l2) → vp_in ((50 * l1) + l2) (hL h (hR h l0 2)))
    (k6 : (¬ (hI h l0 1) ≤ l2) → ((hI h (hR h l0 2) (Int32.toNatClampNeg ((50 * l1) + l2))) = 0) → RR G nc ns m_X6_blocks 46 [some (.ref l0), some (.int l1), some (.int (l2 + 1)), none] [] h Z)
    (c7 : (hR h l0 6) ≠ 0)
    (c8 : hK h (hR h l0 6) = 2)
    (c9 : (¬ (hI h l0 1) ≤ l2) → (¬ (hI h (hR h l0 2) (Int32.toNatClampNeg ((50 * l1) + l2))) = 0) → vp_in l2 (hL h (hR h l0 6)))
    (k10 : (¬ (hI h l0 1) ≤ l2) → (¬ (hI h (hR h l0 2) (Int32.toNatClampNeg ((50 * l1) + l2))) = 0) → ((hI h (hR h l0 6) (Int32.toNatClampNeg l2)) < 0) → RR G nc ns m_X6_blocks 46 [some (.ref l0), some (.int l1), some (.int (l2 + 1)), none] [] h Z)
    (c11 : (hR h l0 12) ≠ 0)
    (c12 : hK h (hR h l0 12) = 4)
    (c13 : (¬ (hI h l0 1) ≤ l2) → (¬ (hI h (hR h l0 2) (Int32.toNatClampNeg ((50 * l1) + l2))) = 0) → (¬ (hI h (hR h l0 6) (Int32.toNatClampNeg l2)) < 0) → vp_in ((50 * l1) + (hI h (hR h l0 6) (Int32.toNatClampNeg l2))) (hL h (hR h l0 12)))
    (k14 : (¬ (hI h l0 1) ≤ l2) → (¬ (hI h (hR h l0 2) (Int32.toNatClampNeg ((50 * l1) + l2))) = 0) → (¬ (hI h (hR h l0 6) (Int32.toNatClampNeg l2)) < 0) → RR G nc ns m_X6_blocks 46 [some (.ref l0), some (.int l1), some (.int (l2 + 1)), none] [] (sI h (hR h l0 12) (Int32.toNatClampNeg ((50 * l1) + (hI h (hR h l0 6) (Int32.toNatClampNeg l2)))) 1) Z) :
    RR G nc ns m_X6_blocks 46 [some (.ref l0), some (.int l1), some (.int l2), none] [] h Z := by
  refine r_iload_n dX6_blocks_46 rfl ?_
  refine r_aload_n dX6_blocks_47 rfl ?_
  refine r_get (c := 6) (k := 1) dX6_blocks_48 rfl rfl (by decide) fl_RX6_129 (c1) rfl ?_
  refine r_icmp_ge 100 dX6_blocks_51 (by decide) (fun q1 => ?_) (fun q1 => ?_)
  · refine r_iincL (v := l1 + 1) [some (.ref l0), some (.int (l1 + 1)), some (.int l2), none] dX6_blocks_100 rfl (by decide) rfl rfl ?_
    refine r_goto (tgt := 24) dX6_blocks_103 (by decide) ?_
    exact RR.sub (k2 q1) (And.intro rfl (And.intro rfl (trivial)))
  · refine r_aload_n dX6_blocks_54 rfl ?_
    refine r_getR (c := 6) (k := 2) dX6_blocks_55 rfl rfl (by decide) fl_RX6_7 (c1) rfl (c3) ?_
    refine r_bipush (v := 50) dX6_blocks_58 (by decide) ?_
    refine r_iload_n dX6_blocks_60 rfl ?_
    refine r_imul dX6_blocks_61 ?_
    refine r_iload_n dX6_blocks_62 rfl ?_
    refine r_iadd dX6_blocks_63 ?_
    refine r_baloadJ (Int32.toNatClampNeg ((50 * l1) + l2)) dX6_blocks_64 (c4) (c5 q1) rfl ?_
    refine r_if_eq 94 dX6_blocks_65 (by decide) (fun q2 => ?_) (fun q2 => ?_)
    · refine r_iincL (v := l2 + 1) [some (.ref l0), some (.int l1), some (.int (l2 + 1)), none] dX6_blocks_94 rfl (by decide) rfl rfl ?_
      refine r_goto (tgt := 46) dX6_blocks_97 (by decide) ?_
      exact k6 q1 q2
    · refine r_aload_n dX6_blocks_68 rfl ?_
      refine r_getR (c := 6) (k := 6) dX6_blocks_69 rfl rfl (by decide) fl_RX6_17 (c1) rfl (c7) ?_
      refine r_iload_n dX6_blocks_72 rfl ?_
      refine r_ialoadJ (Int32.toNatClampNeg l2) dX6_blocks_73 (c8) (c9 q1 q2) rfl ?_
      refine r_if_lt 94 dX6_blocks_74 (by decide) (fun q3 => ?_) (fun q3 => ?_)
      · refine r_iincL (v := l2 + 1) [some (.ref l0), some (.int l1), some (.int (l2 + 1)), none] dX6_blocks_94 rfl (by decide) rfl rfl ?_
        refine r_goto (tgt := 46) dX6_blocks_97 (by decide) ?_
        exact k10 q1 q2 q3
      · refine r_aload_n dX6_blocks_77 rfl ?_
        refine r_getR (c := 6) (k := 12) dX6_blocks_78 rfl rfl (by decide) fl_RX6_35 (c1) rfl (c11) ?_
        refine r_bipush (v := 50) dX6_blocks_81 (by decide) ?_
        refine r_iload_n dX6_blocks_83 rfl ?_
        refine r_imul dX6_blocks_84 ?_
        refine r_aload_n dX6_blocks_85 rfl ?_
        refine r_getR (c := 6) (k := 6) dX6_blocks_86 rfl rfl (by decide) fl_RX6_17 (c1) rfl (c7) ?_
        refine r_iload_n dX6_blocks_89 rfl ?_
        refine r_ialoadJ (Int32.toNatClampNeg l2) dX6_blocks_90 (c8) (c9 q1 q2) rfl ?_
        refine r_iadd dX6_blocks_91 ?_
        refine r_iconst (v := 1) dX6_blocks_92 (by decide) ?_
        refine r_bastoreJ (Int32.toNatClampNeg ((50 * l1) + (hI h (hR h l0 6) (Int32.toNatClampNeg l2)))) dX6_blocks_93 (c12) (c13 q1 q2 q3) rfl (by decide) ?_
        refine r_iincL (v := l2 + 1) [some (.ref l0), some (.int l1), some (.int (l2 + 1)), none] dX6_blocks_94 rfl (by decide) rfl rfl ?_
        refine r_goto (tgt := 46) dX6_blocks_97 (by decide) ?_
        exact k14 q1 q2 q3

set_option maxRecDepth 20000 in
set_option maxHeartbeats 2000000 in
theorem s_X6_blocks_108 {G : GG} {nc ns : Nat} {h : PH} {Z : Option Value → PH → Prop} {l0 : Nat} {l1 : Int32}
    (c1 : hK h l0 = 16)
    (k2 : ((hI h l0 0) ≤ l1) → RR G nc ns m_X6_blocks 219 [some (.ref l0), some (.int 0), none, none] [] (sI h l0 13 0) Z)
    (k3 : (¬ (hI h l0 0) ≤ l1) → RR G nc ns m_X6_blocks 118 [some (.ref l0), some (.int l1), some (.int 0), none] [] h Z) :
    RR G nc ns m_X6_blocks 108 [some (.ref l0), some (.int l1), none, none] [] h Z := by
  refine r_iload_n dX6_blocks_108 rfl ?_
  refine r_aload_n dX6_blocks_109 rfl ?_
  refine r_get (c := 6) (k := 0) dX6_blocks_110 rfl rfl (by decide) fl_RX6_126 (c1) rfl ?_
  refine r_icmp_ge 212 dX6_blocks_113 (by decide) (fun q1 => ?_) (fun q1 => ?_)
  · refine r_aload_n dX6_blocks_212 rfl ?_
    refine r_iconst (v := 0) dX6_blocks_213 (by decide) ?_
    refine r_putI (c := 6) (k := 13) dX6_blocks_214 rfl rfl (by decide) fl_RX6_159 (c1) (Or.inl rfl) (Or.inl rfl) ?_
    refine r_iconst (v := 0) dX6_blocks_217 (by decide) ?_
    refine r_istore_nL [some (.ref l0), some (.int 0), none, none] dX6_blocks_218 (by decide) rfl ?_
    exact k2 q1
  · refine r_iconst (v := 0) dX6_blocks_116 (by decide) ?_
    refine r_istore_nL [some (.ref l0), some (.int l1), some (.int 0), none] dX6_blocks_117 (by decide) rfl ?_
    exact k3 q1

set_option maxRecDepth 20000 in
set_option maxHeartbeats 2000000 in
theorem s_X6_blocks_118 {G : GG} {nc ns : Nat} {h : PH} {Z : Option Value → PH → Prop} {l0 : Nat} {l1 : Int32} {l2 : Int32}
    (c1 : hK h l0 = 16)
    (k2 : ((hI h l0 0) ≤ l2) → RR G nc ns m_X6_blocks 108 [some (.ref l0), some (.int (l1 + 1)), none, none] [] h Z)
    (k3 : (¬ (hI h l0 0) ≤ l2) → RR G nc ns m_X6_blocks 128 [some (.ref l0), some (.int l1), some (.int l2), some (.int 0)] [] h Z) :
    RR G nc ns m_X6_blocks 118 [some (.ref l0), some (.int l1), some (.int l2), none] [] h Z := by
  refine r_iload_n dX6_blocks_118 rfl ?_
  refine r_aload_n dX6_blocks_119 rfl ?_
  refine r_get (c := 6) (k := 0) dX6_blocks_120 rfl rfl (by decide) fl_RX6_126 (c1) rfl ?_
  refine r_icmp_ge 206 dX6_blocks_123 (by decide) (fun q1 => ?_) (fun q1 => ?_)
  · refine r_iincL (v := l1 + 1) [some (.ref l0), some (.int (l1 + 1)), some (.int l2), none] dX6_blocks_206 rfl (by decide) rfl rfl ?_
    refine r_goto (tgt := 108) dX6_blocks_209 (by decide) ?_
    exact RR.sub (k2 q1) (And.intro rfl (And.intro rfl (trivial)))
  · refine r_iconst (v := 0) dX6_blocks_126 (by decide) ?_
    refine r_istore_nL [some (.ref l0), some (.int l1), some (.int l2), some (.int 0)] dX6_blocks_127 (by decide) rfl ?_
    exact k3 q1

set_option maxRecDepth 20000 in
set_option maxHeartbeats 2000000 in
theorem s_X6_blocks_128 {G : GG} {nc ns : Nat} {h : PH} {Z : Option Value → PH → Prop} {l0 : Nat} {l1 : Int32} {l2 : Int32} {l3 : Int32}
    (c1 : hK h l0 = 16)
    (k2 : ((hI h l0 0) ≤ l3) → RR G nc ns m_X6_blocks 118 [some (.ref l0), some (.int l1), some (.int (l2 + 1)), none] [] h Z)
    (c3 : (hR h l0 12) ≠ 0)
    (c4 : hK h (hR h l0 12) = 4)
    (c5 : (¬ (hI h l0 0) ≤ l3) → vp_in ((50 * l2) + l1) (hL h (hR h l0 12)))
    (k6 : (¬ (hI h l0 0) ≤ l3) → ((hI h (hR h l0 12) (Int32.toNatClampNeg ((50 * l2) + l1))) = 0) → RR G nc ns m_X6_blocks 118 [some (.ref l0), some (.int l1), some (.int (l2 + 1)), none] [] h Z)
    (c7 : (¬ (hI h l0 0) ≤ l3) → (¬ (hI h (hR h l0 12) (Int32.toNatClampNeg ((50 * l2) + l1))) = 0) → vp_in ((50 * l2) + l3) (hL h (hR h l0 12)))
    (k8 : (¬ (hI h l0 0) ≤ l3) → (¬ (hI h (hR h l0 12) (Int32.toNatClampNeg ((50 * l2) + l1))) = 0) → (¬ (hI h (hR h l0 12) (Int32.toNatClampNeg ((50 * l2) + l3))) = 0) → RR G nc ns m_X6_blocks 128 [some (.ref l0), some (.int l1), some (.int l2), some (.int (l3 + 1))] [] (sI h (hR h l0 12) (Int32.toNatClampNeg ((50 * l2) + l3)) 1) Z)
    (c9 : (¬ (hI h l0 0) ≤ l3) → (¬ (hI h (hR h l0 12) (Int32.toNatClampNeg ((50 * l2) + l1))) = 0) → ((hI h (hR h l0 12) (Int32.toNatClampNeg ((50 * l2) + l3))) = 0) → vp_in ((50 * l1) + l3) (hL h (hR h l0 12)))
    (k10 : (¬ (hI h l0 0) ≤ l3) → (¬ (hI h (hR h l0 12) (Int32.toNatClampNeg ((50 * l2) + l1))) = 0) → ((hI h (hR h l0 12) (Int32.toNatClampNeg ((50 * l2) + l3))) = 0) → ((hI h (hR h l0 12) (Int32.toNatClampNeg ((50 * l1) + l3))) = 0) → RR G nc ns m_X6_blocks 128 [some (.ref l0), some (.int l1), some (.int l2), some (.int (l3 + 1))] [] (sI h (hR h l0 12) (Int32.toNatClampNeg ((50 * l2) + l3)) 0) Z)
    (k11 : (¬ (hI h l0 0) ≤ l3) → (¬ (hI h (hR h l0 12) (Int32.toNatClampNeg ((50 * l2) + l1))) = 0) → ((hI h (hR h l0 12) (Int32.toNatClampNeg ((50 * l2) + l3))) = 0) → (¬ (hI h (hR h l0 12) (Int32.toNatClampNeg ((50 * l1) + l3))) = 0) → RR G nc ns m_X6_blocks 128 [some (.ref l0), some (.int l1), some (.int l2), some (.int (l3 + 1))] [] (sI h (hR h l0 12) (Int32.toNatClampNeg ((50 * l2) + l3)) 1) Z) :
    RR G nc ns m_X6_blocks 128 [some (.ref l0), some (.int l1), some (.int l2), some (.int l3)] [] h Z := by
  refine r_iload_n dX6_blocks_128 rfl ?_
  refine r_aload_n dX6_blocks_129 rfl ?_
  refine r_get (c := 6) (k := 0) dX6_blocks_130 rfl rfl (by decide) fl_RX6_126 (c1) rfl ?_
  refine r_icmp_ge 200 dX6_blocks_133 (by decide) (fun q1 => ?_) (fun q1 => ?_)
  · refine r_iincL (v := l2 + 1) [some (.ref l0), some (.int l1), some (.int (l2 + 1)), some (.int l3)] dX6_blocks_200 rfl (by decide) rfl rfl ?_
    refine r_goto (tgt := 118) dX6_blocks_203 (by decide) ?_
    exact RR.sub (k2 q1) (And.intro rfl (And.intro rfl (And.intro rfl (trivial))))
  · refine r_aload_n dX6_blocks_136 rfl ?_
    refine r_getR (c := 6) (k := 12) dX6_blocks_137 rfl rfl (by decide) fl_RX6_35 (c1) rfl (c3) ?_
    refine r_bipush (v := 50) dX6_blocks_140 (by decide) ?_
    refine r_iload_n dX6_blocks_142 rfl ?_
    refine r_imul dX6_blocks_143 ?_
    refine r_iload_n dX6_blocks_144 rfl ?_
    refine r_iadd dX6_blocks_145 ?_
    refine r_baloadJ (Int32.toNatClampNeg ((50 * l2) + l1)) dX6_blocks_146 (c4) (c5 q1) rfl ?_
    refine r_if_eq 200 dX6_blocks_147 (by decide) (fun q2 => ?_) (fun q2 => ?_)
    · refine r_iincL (v := l2 + 1) [some (.ref l0), some (.int l1), some (.int (l2 + 1)), some (.int l3)] dX6_blocks_200 rfl (by decide) rfl rfl ?_
      refine r_goto (tgt := 118) dX6_blocks_203 (by decide) ?_
      exact RR.sub (k6 q1 q2) (And.intro rfl (And.intro rfl (And.intro rfl (trivial))))
    · refine r_aload_n dX6_blocks_150 rfl ?_
      refine r_getR (c := 6) (k := 12) dX6_blocks_151 rfl rfl (by decide) fl_RX6_35 (c1) rfl (c3) ?_
      refine r_bipush (v := 50) dX6_blocks_154 (by decide) ?_
      refine r_iload_n dX6_blocks_156 rfl ?_
      refine r_imul dX6_blocks_157 ?_
      refine r_iload_n dX6_blocks_158 rfl ?_
      refine r_iadd dX6_blocks_159 ?_
      refine r_aload_n dX6_blocks_160 rfl ?_
      refine r_getR (c := 6) (k := 12) dX6_blocks_161 rfl rfl (by decide) fl_RX6_35 (c1) rfl (c3) ?_
      refine r_bipush (v := 50) dX6_blocks_164 (by decide) ?_
      refine r_iload_n dX6_blocks_166 rfl ?_
      refine r_imul dX6_blocks_167 ?_
      refine r_iload_n dX6_blocks_168 rfl ?_
      refine r_iadd dX6_blocks_169 ?_
      refine r_baloadJ (Int32.toNatClampNeg ((50 * l2) + l3)) dX6_blocks_170 (c4) (c7 q1 q2) rfl ?_
      refine r_if_ne 188 dX6_blocks_171 (by decide) (fun q3 => ?_) (fun q3 => ?_)
      · refine r_iconst (v := 1) dX6_blocks_188 (by decide) ?_
        refine r_goto (tgt := 193) dX6_blocks_189 (by decide) ?_
        refine r_bastoreJ (Int32.toNatClampNeg ((50 * l2) + l3)) dX6_blocks_193 (c4) (c7 q1 q2) rfl (by decide) ?_
        refine r_iincL (v := l3 + 1) [some (.ref l0), some (.int l1), some (.int l2), some (.int (l3 + 1))] dX6_blocks_194 rfl (by decide) rfl rfl ?_
        refine r_goto (tgt := 128) dX6_blocks_197 (by decide) ?_
        exact k8 q1 q2 q3
      · refine r_aload_n dX6_blocks_174 rfl ?_
        refine r_getR (c := 6) (k := 12) dX6_blocks_175 rfl rfl (by decide) fl_RX6_35 (c1) rfl (c3) ?_
        refine r_bipush (v := 50) dX6_blocks_178 (by decide) ?_
        refine r_iload_n dX6_blocks_180 rfl ?_
        refine r_imul dX6_blocks_181 ?_
        refine r_iload_n dX6_blocks_182 rfl ?_
        refine r_iadd dX6_blocks_183 ?_
        refine r_baloadJ (Int32.toNatClampNeg ((50 * l1) + l3)) dX6_blocks_184 (c4) (c9 q1 q2 q3) rfl ?_
        refine r_if_eq 192 dX6_blocks_185 (by decide) (fun q4 => ?_) (fun q4 => ?_)
        · refine r_iconst (v := 0) dX6_blocks_192 (by decide) ?_
          refine r_bastoreJ (Int32.toNatClampNeg ((50 * l2) + l3)) dX6_blocks_193 (c4) (c7 q1 q2) rfl (by decide) ?_
          refine r_iincL (v := l3 + 1) [some (.ref l0), some (.int l1), some (.int l2), some (.int (l3 + 1))] dX6_blocks_194 rfl (by decide) rfl rfl ?_
          refine r_goto (tgt := 128) dX6_blocks_197 (by decide) ?_
          exact k10 q1 q2 q3 q4
        · refine r_iconst (v := 1) dX6_blocks_188 (by decide) ?_
          refine r_goto (tgt := 193) dX6_blocks_189 (by decide) ?_
          refine r_bastoreJ (Int32.toNatClampNeg ((50 * l2) + l3)) dX6_blocks_193 (c4) (c7 q1 q2) rfl (by decide) ?_
          refine r_iincL (v := l3 + 1) [some (.ref l0), some (.int l1), some (.int l2), some (.int (l3 + 1))] dX6_blocks_194 rfl (by decide) rfl rfl ?_
          refine r_goto (tgt := 128) dX6_blocks_197 (by decide) ?_
          exact k11 q1 q2 q3 q4

set_option maxRecDepth 20000 in
set_option maxHeartbeats 2000000 in
theorem s_X6_blocks_219 {G : GG} {nc ns : Nat} {h : PH} {Z : Option Value → PH → Prop} {l0 : Nat} {l1 : Int32}
    (c1 : hK h l0 = 16)
    (k2 : ((hI h l0 0) ≤ l1) → Z none h)
    (c3 : (hR h l0 11) ≠ 0)
    (c4 : hK h (hR h l0 11) = 2)
    (c5 : (¬ (hI h l0 0) ≤ l1) → vp_in l1 (hL h (hR h l0 11)))
    (k6 : (¬ (hI h l0 0) ≤ l1) → RR G nc ns m_X6_blocks 236 [some (.ref l0), some (.int l1), some (.int 0), none] [] (sI h (hR h l0 11) (Int32.toNatClampNeg l1) (-1)) Z) :
    RR G nc ns m_X6_blocks 219 [some (.ref l0), some (.int l1), none, none] [] h Z := by
  refine r_iload_n dX6_blocks_219 rfl ?_
  refine r_aload_n dX6_blocks_220 rfl ?_
  refine r_get (c := 6) (k := 0) dX6_blocks_221 rfl rfl (by decide) fl_RX6_126 (c1) rfl ?_
  refine r_icmp_ge 361 dX6_blocks_224 (by decide) (fun q1 => ?_) (fun q1 => ?_)
  · exact r_return dX6_blocks_361 rfl (k2 q1)
  · refine r_aload_n dX6_blocks_227 rfl ?_
    refine r_getR (c := 6) (k := 11) dX6_blocks_228 rfl rfl (by decide) fl_RX6_32 (c1) rfl (c3) ?_
    refine r_iload_n dX6_blocks_231 rfl ?_
    refine r_iconst (v := (-1)) dX6_blocks_232 (by decide) ?_
    refine r_iastoreJ (Int32.toNatClampNeg l1) dX6_blocks_233 (c4) (c5 q1) rfl ?_
    refine r_iconst (v := 0) dX6_blocks_234 (by decide) ?_
    refine r_istore_nL [some (.ref l0), some (.int l1), some (.int 0), none] dX6_blocks_235 (by decide) rfl ?_
    exact k6 q1

set_option maxRecDepth 20000 in
set_option maxHeartbeats 2000000 in
theorem s_X6_blocks_236 {G : GG} {nc ns : Nat} {h : PH} {Z : Option Value → PH → Prop} {l0 : Nat} {l1 : Int32} {l2 : Int32}
    (c1 : hK h l0 = 16)
    (c2 : (hR h l0 9) ≠ 0)
    (c3 : hK h (hR h l0 9) = 2)
    (c4 : (l1 ≤ l2) → vp_in l1 (hL h (hR h l0 9)))
    (k5 : (l1 ≤ l2) → (¬ (hI h (hR h l0 9) (Int32.toNatClampNeg l1)) = 1) → RR G nc ns m_X6_blocks 219 [some (.ref l0), some (.int (l1 + 1)), none, none] [] h Z)
    (c6 : (hR h l0 11) ≠ 0)
    (c7 : hK h (hR h l0 11) = 2)
    (c8 : (l1 ≤ l2) → ((hI h (hR h l0 9) (Int32.toNatClampNeg l1)) = 1) → vp_in l1 (hL h (hR h l0 11)))
    (k9 : (l1 ≤ l2) → ((hI h (hR h l0 9) (Int32.toNatClampNeg l1)) = 1) → (0 ≤ (hI h (hR h l0 11) (Int32.toNatClampNeg l1))) → RR G nc ns m_X6_blocks 219 [some (.ref l0), some (.int (l1 + 1)), none, none] [] h Z)
    (k10 : (l1 ≤ l2) → ((hI h (hR h l0 9) (Int32.toNatClampNeg l1)) = 1) → (¬ 0 ≤ (hI h (hR h l0 11) (Int32.toNatClampNeg l1))) → RR G nc ns m_X6_blocks 219 [some (.ref l0), some (.int (l1 + 1)), none, none] [] (sI (sI h (hR h l0 11) (Int32.toNatClampNeg l1) (hI h l0 13)) l0 13 ((hI (sI h (hR h l0 11) (Int32.toNatClampNeg l1) (hI h l0 13)) l0 13) + 1)) Z)
    (c11 : (¬ l1 ≤ l2) → vp_in l1 (hL h (hR h l0 9)))
    (c12 : (¬ l1 ≤ l2) → (¬ (hI h (hR h l0 9) (Int32.toNatClampNeg l1)) = 1) → vp_in l1 (hL h (hR h l0 9)))
    (k13 : (¬ l1 ≤ l2) → (¬ (hI h (hR h l0 9) (Int32.toNatClampNeg l1)) = 1) → (¬ (hI h (hR h l0 9) (Int32.toNatClampNeg l1)) = 1) → RR G nc ns m_X6_blocks 219 [some (.ref l0), some (.int (l1 + 1)), none, none] [] h Z)
    (c14 : (¬ l1 ≤ l2) → (¬ (hI h (hR h l0 9) (Int32.toNatClampNeg l1)) = 1) → ((hI h (hR h l0 9) (Int32.toNatClampNeg l1)) = 1) → vp_in l1 (hL h (hR h l0 11)))
    (k15 : (¬ l1 ≤ l2) → (¬ (hI h (hR h l0 9) (Int32.toNatClampNeg l1)) = 1) → ((hI h (hR h l0 9) (Int32.toNatClampNeg l1)) = 1) → (0 ≤ (hI h (hR h l0 11) (Int32.toNatClampNeg l1))) → RR G nc ns m_X6_blocks 219 [some (.ref l0), some (.int (l1 + 1)), none, none] [] h Z)
    (c16 : (¬ l1 ≤ l2) → (¬ (hI h (hR h l0 9) (Int32.toNatClampNeg l1)) = 1) → ((hI h (hR h l0 9) (Int32.toNatClampNeg l1)) = 1) → (¬ 0 ≤ (hI h (hR h l0 11) (Int32.toNatClampNeg l1))) → vp_in l1 (hL h (hR h l0 11)))
    (k17 : (¬ l1 ≤ l2) → (¬ (hI h (hR h l0 9) (Int32.toNatClampNeg l1)) = 1) → ((hI h (hR h l0 9) (Int32.toNatClampNeg l1)) = 1) → (¬ 0 ≤ (hI h (hR h l0 11) (Int32.toNatClampNeg l1))) → RR G nc ns m_X6_blocks 219 [some (.ref l0), some (.int (l1 + 1)), none, none] [] (sI (sI h (hR h l0 11) (Int32.toNatClampNeg l1) (hI h l0 13)) l0 13 ((hI (sI h (hR h l0 11) (Int32.toNatClampNeg l1) (hI h l0 13)) l0 13) + 1)) Z)
    (c18 : (¬ l1 ≤ l2) → ((hI h (hR h l0 9) (Int32.toNatClampNeg l1)) = 1) → vp_in l1 (hL h (hR h l0 11)))
    (c19 : (¬ l1 ≤ l2) → ((hI h (hR h l0 9) (Int32.toNatClampNeg l1)) = 1) → (0 ≤ (hI h (hR h l0 11) (Int32.toNatClampNeg l1))) → vp_in l1 (hL h (hR h l0 9)))
    (k20 : (¬ l1 ≤ l2) → ((hI h (hR h l0 9) (Int32.toNatClampNeg l1)) = 1) → (0 ≤ (hI h (hR h l0 11) (Int32.toNatClampNeg l1))) → (¬ (hI h (hR h l0 9) (Int32.toNatClampNeg l1)) = 1) → RR G nc ns m_X6_blocks 219 [some (.ref l0), some (.int (l1 + 1)), none, none] [] h Z)
    (c21 : (¬ l1 ≤ l2) → ((hI h (hR h l0 9) (Int32.toNatClampNeg l1)) = 1) → (0 ≤ (hI h (hR h l0 11) (Int32.toNatClampNeg l1))) → ((hI h (hR h l0 9) (Int32.toNatClampNeg l1)) = 1) → vp_in l1 (hL h (hR h l0 11)))
    (k22 : (¬ l1 ≤ l2) → ((hI h (hR h l0 9) (Int32.toNatClampNeg l1)) = 1) → (0 ≤ (hI h (hR h l0 11) (Int32.toNatClampNeg l1))) → ((hI h (hR h l0 9) (Int32.toNatClampNeg l1)) = 1) → (0 ≤ (hI h (hR h l0 11) (Int32.toNatClampNeg l1))) → RR G nc ns m_X6_blocks 219 [some (.ref l0), some (.int (l1 + 1)), none, none] [] h Z)
    (c23 : (¬ l1 ≤ l2) → ((hI h (hR h l0 9) (Int32.toNatClampNeg l1)) = 1) → (0 ≤ (hI h (hR h l0 11) (Int32.toNatClampNeg l1))) → ((hI h (hR h l0 9) (Int32.toNatClampNeg l1)) = 1) → (¬ 0 ≤ (hI h (hR h l0 11) (Int32.toNatClampNeg l1))) → vp_in l1 (hL h (hR h l0 11)))
    (k24 : (¬ l1 ≤ l2) → ((hI h (hR h l0 9) (Int32.toNatClampNeg l1)) = 1) → (0 ≤ (hI h (hR h l0 11) (Int32.toNatClampNeg l1))) → ((hI h (hR h l0 9) (Int32.toNatClampNeg l1)) = 1) → (¬ 0 ≤ (hI h (hR h l0 11) (Int32.toNatClampNeg l1))) → RR G nc ns m_X6_blocks 219 [some (.ref l0), some (.int (l1 + 1)), none, none] [] (sI (sI h (hR h l0 11) (Int32.toNatClampNeg l1) (hI h l0 13)) l0 13 ((hI (sI h (hR h l0 11) (Int32.toNatClampNeg l1) (hI h l0 13)) l0 13) + 1)) Z)
    (c25 : (¬ l1 ≤ l2) → ((hI h (hR h l0 9) (Int32.toNatClampNeg l1)) = 1) → (¬ 0 ≤ (hI h (hR h l0 11) (Int32.toNatClampNeg l1))) → vp_in l2 (hL h (hR h l0 9)))
    (k26 : (¬ l1 ≤ l2) → ((hI h (hR h l0 9) (Int32.toNatClampNeg l1)) = 1) → (¬ 0 ≤ (hI h (hR h l0 11) (Int32.toNatClampNeg l1))) → (¬ (hI h (hR h l0 9) (Int32.toNatClampNeg l2)) = 1) → RR G nc ns m_X6_blocks 236 [some (.ref l0), some (.int l1), some (.int (l2 + 1)), none] [] h Z)
    (c27 : (hR h l0 12) ≠ 0)
    (c28 : hK h (hR h l0 12) = 4)
    (c29 : (¬ l1 ≤ l2) → ((hI h (hR h l0 9) (Int32.toNatClampNeg l1)) = 1) → (¬ 0 ≤ (hI h (hR h l0 11) (Int32.toNatClampNeg l1))) → ((hI h (hR h l0 9) (Int32.toNatClampNeg l2)) = 1) → vp_in ((50 * l2) + l1) (hL h (hR h l0 12)))
    (k30 : (¬ l1 ≤ l2) → ((hI h (hR h l0 9) (Int32.toNatClampNeg l1)) = 1) → (¬ 0 ≤ (hI h (hR h l0 11) (Int32.toNatClampNeg l1))) → ((hI h (hR h l0 9) (Int32.toNatClampNeg l2)) = 1) → ((hI h (hR h l0 12) (Int32.toNatClampNeg ((50 * l2) + l1))) = 0) → RR G nc ns m_X6_blocks 236 [some (.ref l0), some (.int l1), some (.int (l2 + 1)), none] [] h Z)
    (c31 : (¬ l1 ≤ l2) → ((hI h (hR h l0 9) (Int32.toNatClampNeg l1)) = 1) → (¬ 0 ≤ (hI h (hR h l0 11) (Int32.toNatClampNeg l1))) → ((hI h (hR h l0 9) (Int32.toNatClampNeg l2)) = 1) → (¬ (hI h (hR h l0 12) (Int32.toNatClampNeg ((50 * l2) + l1))) = 0) → vp_in ((50 * l1) + l2) (hL h (hR h l0 12)))
    (k32 : (¬ l1 ≤ l2) → ((hI h (hR h l0 9) (Int32.toNatClampNeg l1)) = 1) → (¬ 0 ≤ (hI h (hR h l0 11) (Int32.toNatClampNeg l1))) → ((hI h (hR h l0 9) (Int32.toNatClampNeg l2)) = 1) → (¬ (hI h (hR h l0 12) (Int32.toNatClampNeg ((50 * l2) + l1))) = 0) → ((hI h (hR h l0 12) (Int32.toNatClampNeg ((50 * l1) + l2))) = 0) → RR G nc ns m_X6_blocks 236 [some (.ref l0), some (.int l1), some (.int (l2 + 1)), none] [] h Z)
    (c33 : (¬ l1 ≤ l2) → ((hI h (hR h l0 9) (Int32.toNatClampNeg l1)) = 1) → (¬ 0 ≤ (hI h (hR h l0 11) (Int32.toNatClampNeg l1))) → ((hI h (hR h l0 9) (Int32.toNatClampNeg l2)) = 1) → (¬ (hI h (hR h l0 12) (Int32.toNatClampNeg ((50 * l2) + l1))) = 0) → (¬ (hI h (hR h l0 12) (Int32.toNatClampNeg ((50 * l1) + l2))) = 0) → vp_in l2 (hL h (hR h l0 11)))
    (c34 : (¬ l1 ≤ l2) → ((hI h (hR h l0 9) (Int32.toNatClampNeg l1)) = 1) → (¬ 0 ≤ (hI h (hR h l0 11) (Int32.toNatClampNeg l1))) → ((hI h (hR h l0 9) (Int32.toNatClampNeg l2)) = 1) → (¬ (hI h (hR h l0 12) (Int32.toNatClampNeg ((50 * l2) + l1))) = 0) → (¬ (hI h (hR h l0 12) (Int32.toNatClampNeg ((50 * l1) + l2))) = 0) → vp_in l1 (hL h (hR h l0 11)))
    (k35 : (¬ l1 ≤ l2) → ((hI h (hR h l0 9) (Int32.toNatClampNeg l1)) = 1) → (¬ 0 ≤ (hI h (hR h l0 11) (Int32.toNatClampNeg l1))) → ((hI h (hR h l0 9) (Int32.toNatClampNeg l2)) = 1) → (¬ (hI h (hR h l0 12) (Int32.toNatClampNeg ((50 * l2) + l1))) = 0) → (¬ (hI h (hR h l0 12) (Int32.toNatClampNeg ((50 * l1) + l2))) = 0) → RR G nc ns m_X6_blocks 236 [some (.ref l0), some (.int l1), some (.int (l2 + 1)), none] [] (sI h (hR h l0 11) (Int32.toNatClampNeg l1) (hI h (hR h l0 11) (Int32.toNatClampNeg l2))) Z) :
    RR G nc ns m_X6_blocks 236 [some (.ref l0), some (.int l1), some (.int l2), none] [] h Z := by
  refine r_iload_n dX6_blocks_236 rfl ?_
  refine r_iload_n dX6_blocks_237 rfl ?_
  refine r_icmp_ge 316 dX6_blocks_238 (by decide) (fun q1 => ?_) (fun q1 => ?_)
  · refine r_aload_n dX6_blocks_316 rfl ?_
    refine r_getR (c := 6) (k := 9) dX6_blocks_317 rfl rfl (by decide) fl_RX6_26 (c1) rfl (c2) ?_
    refine r_iload_n dX6_blocks_320 rfl ?_
    refine r_ialoadJ (Int32.toNatClampNeg l1) dX6_blocks_321 (c3) (c4 q1) rfl ?_
    refine r_iconst (v := 1) dX6_blocks_322 (by decide) ?_
    refine r_icmp_ne 355 dX6_blocks_323 (by decide) (fun q2 => ?_) (fun q2 => ?_)
    · refine r_iincL (v := l1 + 1) [some (.ref l0), some (.int (l1 + 1)), some (.int l2), none] dX6_blocks_355 rfl (by decide) rfl rfl ?_
      refine r_goto (tgt := 219) dX6_blocks_358 (by decide) ?_
      exact RR.sub (k5 q1 q2) (And.intro rfl (And.intro rfl (trivial)))
    · refine r_aload_n dX6_blocks_326 rfl ?_
      refine r_getR (c := 6) (k := 11) dX6_blocks_327 rfl rfl (by decide) fl_RX6_32 (c1) rfl (c6) ?_
      refine r_iload_n dX6_blocks_330 rfl ?_
      refine r_ialoadJ (Int32.toNatClampNeg l1) dX6_blocks_331 (c7) (c8 q1 q2) rfl ?_
      refine r_if_ge 355 dX6_blocks_332 (by decide) (fun q3 => ?_) (fun q3 => ?_)
      · refine r_iincL (v := l1 + 1) [some (.ref l0), some (.int (l1 + 1)), some (.int l2), none] dX6_blocks_355 rfl (by decide) rfl rfl ?_
        refine r_goto (tgt := 219) dX6_blocks_358 (by decide) ?_
        exact RR.sub (k9 q1 q2 q3) (And.intro rfl (And.intro rfl (trivial)))
      · refine r_aload_n dX6_blocks_335 rfl ?_
        refine r_getR (c := 6) (k := 11) dX6_blocks_336 rfl rfl (by decide) fl_RX6_32 (c1) rfl (c6) ?_
        refine r_iload_n dX6_blocks_339 rfl ?_
        refine r_aload_n dX6_blocks_340 rfl ?_
        refine r_get (c := 6) (k := 13) dX6_blocks_341 rfl rfl (by decide) fl_RX6_159 (c1) rfl ?_
        refine r_iastoreJ (Int32.toNatClampNeg l1) dX6_blocks_344 (c7) (c8 q1 q2) rfl ?_
        refine r_aload_n dX6_blocks_345 rfl ?_
        refine r_dup dX6_blocks_346 rfl ?_
        refine r_get (c := 6) (k := 13) dX6_blocks_347 rfl rfl (by decide) fl_RX6_159 (c1) rfl ?_
        refine r_iconst (v := 1) dX6_blocks_350 (by decide) ?_
        refine r_iadd dX6_blocks_351 ?_
        refine r_putI (c := 6) (k := 13) dX6_blocks_352 rfl rfl (by decide) fl_RX6_159 (c1) (Or.inl rfl) (Or.inl rfl) ?_
        refine r_iincL (v := l1 + 1) [some (.ref l0), some (.int (l1 + 1)), some (.int l2), none] dX6_blocks_355 rfl (by decide) rfl rfl ?_
        refine r_goto (tgt := 219) dX6_blocks_358 (by decide) ?_
        exact RR.sub (k10 q1 q2 q3) (And.intro rfl (And.intro rfl (trivial)))
  · refine r_aload_n dX6_blocks_241 rfl ?_
    refine r_getR (c := 6) (k := 9) dX6_blocks_242 rfl rfl (by decide) fl_RX6_26 (c1) rfl (c2) ?_
    refine r_iload_n dX6_blocks_245 rfl ?_
    refine r_ialoadJ (Int32.toNatClampNeg l1) dX6_blocks_246 (c3) (c11 q1) rfl ?_
    refine r_iconst (v := 1) dX6_blocks_247 (by decide) ?_
    refine r_icmp_ne 316 dX6_blocks_248 (by decide) (fun q4 => ?_) (fun q4 => ?_)
    · refine r_aload_n dX6_blocks_316 rfl ?_
      refine r_getR (c := 6) (k := 9) dX6_blocks_317 rfl rfl (by decide) fl_RX6_26 (c1) rfl (c2) ?_
      refine r_iload_n dX6_blocks_320 rfl ?_
      refine r_ialoadJ (Int32.toNatClampNeg l1) dX6_blocks_321 (c3) (c12 q1 q4) rfl ?_
      refine r_iconst (v := 1) dX6_blocks_322 (by decide) ?_
      refine r_icmp_ne 355 dX6_blocks_323 (by decide) (fun q5 => ?_) (fun q5 => ?_)
      · refine r_iincL (v := l1 + 1) [some (.ref l0), some (.int (l1 + 1)), some (.int l2), none] dX6_blocks_355 rfl (by decide) rfl rfl ?_
        refine r_goto (tgt := 219) dX6_blocks_358 (by decide) ?_
        exact RR.sub (k13 q1 q4 q5) (And.intro rfl (And.intro rfl (trivial)))
      · refine r_aload_n dX6_blocks_326 rfl ?_
        refine r_getR (c := 6) (k := 11) dX6_blocks_327 rfl rfl (by decide) fl_RX6_32 (c1) rfl (c6) ?_
        refine r_iload_n dX6_blocks_330 rfl ?_
        refine r_ialoadJ (Int32.toNatClampNeg l1) dX6_blocks_331 (c7) (c14 q1 q4 q5) rfl ?_
        refine r_if_ge 355 dX6_blocks_332 (by decide) (fun q6 => ?_) (fun q6 => ?_)
        · refine r_iincL (v := l1 + 1) [some (.ref l0), some (.int (l1 + 1)), some (.int l2), none] dX6_blocks_355 rfl (by decide) rfl rfl ?_
          refine r_goto (tgt := 219) dX6_blocks_358 (by decide) ?_
          exact RR.sub (k15 q1 q4 q5 q6) (And.intro rfl (And.intro rfl (trivial)))
        · refine r_aload_n dX6_blocks_335 rfl ?_
          refine r_getR (c := 6) (k := 11) dX6_blocks_336 rfl rfl (by decide) fl_RX6_32 (c1) rfl (c6) ?_
          refine r_iload_n dX6_blocks_339 rfl ?_
          refine r_aload_n dX6_blocks_340 rfl ?_
          refine r_get (c := 6) (k := 13) dX6_blocks_341 rfl rfl (by decide) fl_RX6_159 (c1) rfl ?_
          refine r_iastoreJ (Int32.toNatClampNeg l1) dX6_blocks_344 (c7) (c16 q1 q4 q5 q6) rfl ?_
          refine r_aload_n dX6_blocks_345 rfl ?_
          refine r_dup dX6_blocks_346 rfl ?_
          refine r_get (c := 6) (k := 13) dX6_blocks_347 rfl rfl (by decide) fl_RX6_159 (c1) rfl ?_
          refine r_iconst (v := 1) dX6_blocks_350 (by decide) ?_
          refine r_iadd dX6_blocks_351 ?_
          refine r_putI (c := 6) (k := 13) dX6_blocks_352 rfl rfl (by decide) fl_RX6_159 (c1) (Or.inl rfl) (Or.inl rfl) ?_
          refine r_iincL (v := l1 + 1) [some (.ref l0), some (.int (l1 + 1)), some (.int l2), none] dX6_blocks_355 rfl (by decide) rfl rfl ?_
          refine r_goto (tgt := 219) dX6_blocks_358 (by decide) ?_
          exact RR.sub (k17 q1 q4 q5 q6) (And.intro rfl (And.intro rfl (trivial)))
    · refine r_aload_n dX6_blocks_251 rfl ?_
      refine r_getR (c := 6) (k := 11) dX6_blocks_252 rfl rfl (by decide) fl_RX6_32 (c1) rfl (c6) ?_
      refine r_iload_n dX6_blocks_255 rfl ?_
      refine r_ialoadJ (Int32.toNatClampNeg l1) dX6_blocks_256 (c7) (c18 q1 q4) rfl ?_
      refine r_if_ge 316 dX6_blocks_257 (by decide) (fun q7 => ?_) (fun q7 => ?_)
      · refine r_aload_n dX6_blocks_316 rfl ?_
        refine r_getR (c := 6) (k := 9) dX6_blocks_317 rfl rfl (by decide) fl_RX6_26 (c1) rfl (c2) ?_
        refine r_iload_n dX6_blocks_320 rfl ?_
        refine r_ialoadJ (Int32.toNatClampNeg l1) dX6_blocks_321 (c3) (c19 q1 q4 q7) rfl ?_
        refine r_iconst (v := 1) dX6_blocks_322 (by decide) ?_
        refine r_icmp_ne 355 dX6_blocks_323 (by decide) (fun q8 => ?_) (fun q8 => ?_)
        · refine r_iincL (v := l1 + 1) [some (.ref l0), some (.int (l1 + 1)), some (.int l2), none] dX6_blocks_355 rfl (by decide) rfl rfl ?_
          refine r_goto (tgt := 219) dX6_blocks_358 (by decide) ?_
          exact RR.sub (k20 q1 q4 q7 q8) (And.intro rfl (And.intro rfl (trivial)))
        · refine r_aload_n dX6_blocks_326 rfl ?_
          refine r_getR (c := 6) (k := 11) dX6_blocks_327 rfl rfl (by decide) fl_RX6_32 (c1) rfl (c6) ?_
          refine r_iload_n dX6_blocks_330 rfl ?_
          refine r_ialoadJ (Int32.toNatClampNeg l1) dX6_blocks_331 (c7) (c21 q1 q4 q7 q8) rfl ?_
          refine r_if_ge 355 dX6_blocks_332 (by decide) (fun q9 => ?_) (fun q9 => ?_)
          · refine r_iincL (v := l1 + 1) [some (.ref l0), some (.int (l1 + 1)), some (.int l2), none] dX6_blocks_355 rfl (by decide) rfl rfl ?_
            refine r_goto (tgt := 219) dX6_blocks_358 (by decide) ?_
            exact RR.sub (k22 q1 q4 q7 q8 q9) (And.intro rfl (And.intro rfl (trivial)))
          · refine r_aload_n dX6_blocks_335 rfl ?_
            refine r_getR (c := 6) (k := 11) dX6_blocks_336 rfl rfl (by decide) fl_RX6_32 (c1) rfl (c6) ?_
            refine r_iload_n dX6_blocks_339 rfl ?_
            refine r_aload_n dX6_blocks_340 rfl ?_
            refine r_get (c := 6) (k := 13) dX6_blocks_341 rfl rfl (by decide) fl_RX6_159 (c1) rfl ?_
            refine r_iastoreJ (Int32.toNatClampNeg l1) dX6_blocks_344 (c7) (c23 q1 q4 q7 q8 q9) rfl ?_
            refine r_aload_n dX6_blocks_345 rfl ?_
            refine r_dup dX6_blocks_346 rfl ?_
            refine r_get (c := 6) (k := 13) dX6_blocks_347 rfl rfl (by decide) fl_RX6_159 (c1) rfl ?_
            refine r_iconst (v := 1) dX6_blocks_350 (by decide) ?_
            refine r_iadd dX6_blocks_351 ?_
            refine r_putI (c := 6) (k := 13) dX6_blocks_352 rfl rfl (by decide) fl_RX6_159 (c1) (Or.inl rfl) (Or.inl rfl) ?_
            refine r_iincL (v := l1 + 1) [some (.ref l0), some (.int (l1 + 1)), some (.int l2), none] dX6_blocks_355 rfl (by decide) rfl rfl ?_
            refine r_goto (tgt := 219) dX6_blocks_358 (by decide) ?_
            exact RR.sub (k24 q1 q4 q7 q8 q9) (And.intro rfl (And.intro rfl (trivial)))
      · refine r_aload_n dX6_blocks_260 rfl ?_
        refine r_getR (c := 6) (k := 9) dX6_blocks_261 rfl rfl (by decide) fl_RX6_26 (c1) rfl (c2) ?_
        refine r_iload_n dX6_blocks_264 rfl ?_
        refine r_ialoadJ (Int32.toNatClampNeg l2) dX6_blocks_265 (c3) (c25 q1 q4 q7) rfl ?_
        refine r_iconst (v := 1) dX6_blocks_266 (by decide) ?_
        refine r_icmp_ne 310 dX6_blocks_267 (by decide) (fun q10 => ?_) (fun q10 => ?_)
        · refine r_iincL (v := l2 + 1) [some (.ref l0), some (.int l1), some (.int (l2 + 1)), none] dX6_blocks_310 rfl (by decide) rfl rfl ?_
          refine r_goto (tgt := 236) dX6_blocks_313 (by decide) ?_
          exact k26 q1 q4 q7 q10
        · refine r_aload_n dX6_blocks_270 rfl ?_
          refine r_getR (c := 6) (k := 12) dX6_blocks_271 rfl rfl (by decide) fl_RX6_35 (c1) rfl (c27) ?_
          refine r_bipush (v := 50) dX6_blocks_274 (by decide) ?_
          refine r_iload_n dX6_blocks_276 rfl ?_
          refine r_imul dX6_blocks_277 ?_
          refine r_iload_n dX6_blocks_278 rfl ?_
          refine r_iadd dX6_blocks_279 ?_
          refine r_baloadJ (Int32.toNatClampNeg ((50 * l2) + l1)) dX6_blocks_280 (c28) (c29 q1 q4 q7 q10) rfl ?_
          refine r_if_eq 310 dX6_blocks_281 (by decide) (fun q11 => ?_) (fun q11 => ?_)
          · refine r_iincL (v := l2 + 1) [some (.ref l0), some (.int l1), some (.int (l2 + 1)), none] dX6_blocks_310 rfl (by decide) rfl rfl ?_
            refine r_goto (tgt := 236) dX6_blocks_313 (by decide) ?_
            exact k30 q1 q4 q7 q10 q11
          · refine r_aload_n dX6_blocks_284 rfl ?_
            refine r_getR (c := 6) (k := 12) dX6_blocks_285 rfl rfl (by decide) fl_RX6_35 (c1) rfl (c27) ?_
            refine r_bipush (v := 50) dX6_blocks_288 (by decide) ?_
            refine r_iload_n dX6_blocks_290 rfl ?_
            refine r_imul dX6_blocks_291 ?_
            refine r_iload_n dX6_blocks_292 rfl ?_
            refine r_iadd dX6_blocks_293 ?_
            refine r_baloadJ (Int32.toNatClampNeg ((50 * l1) + l2)) dX6_blocks_294 (c28) (c31 q1 q4 q7 q10 q11) rfl ?_
            refine r_if_eq 310 dX6_blocks_295 (by decide) (fun q12 => ?_) (fun q12 => ?_)
            · refine r_iincL (v := l2 + 1) [some (.ref l0), some (.int l1), some (.int (l2 + 1)), none] dX6_blocks_310 rfl (by decide) rfl rfl ?_
              refine r_goto (tgt := 236) dX6_blocks_313 (by decide) ?_
              exact k32 q1 q4 q7 q10 q11 q12
            · refine r_aload_n dX6_blocks_298 rfl ?_
              refine r_getR (c := 6) (k := 11) dX6_blocks_299 rfl rfl (by decide) fl_RX6_32 (c1) rfl (c6) ?_
              refine r_iload_n dX6_blocks_302 rfl ?_
              refine r_aload_n dX6_blocks_303 rfl ?_
              refine r_getR (c := 6) (k := 11) dX6_blocks_304 rfl rfl (by decide) fl_RX6_32 (c1) rfl (c6) ?_
              refine r_iload_n dX6_blocks_307 rfl ?_
              refine r_ialoadJ (Int32.toNatClampNeg l2) dX6_blocks_308 (c7) (c33 q1 q4 q7 q10 q11 q12) rfl ?_
              refine r_iastoreJ (Int32.toNatClampNeg l1) dX6_blocks_309 (c7) (c34 q1 q4 q7 q10 q11 q12) rfl ?_
              refine r_iincL (v := l2 + 1) [some (.ref l0), some (.int l1), some (.int (l2 + 1)), none] dX6_blocks_310 rfl (by decide) rfl rfl ?_
              refine r_goto (tgt := 236) dX6_blocks_313 (by decide) ?_
              exact k35 q1 q4 q7 q10 q11 q12

set_option maxRecDepth 20000 in
set_option maxHeartbeats 2000000 in
theorem s_X6_isNode_0 {G : GG} {nc ns : Nat} {h : PH} {Z : Option Value → PH → Prop} {l0 : Nat} {l1 : Int32} {l2 : Int32}
    (k1 : (l2 < 0) → Z (some (.int 0)) h)
    (k2 : (¬ l2 < 0) → (¬ l1 = 0) → (¬ l1 = 1) → Z (some (.int 0)) h)
    (c3 : hK h l0 = 16)
    (k4 : (¬ l2 < 0) → (¬ l1 = 0) → (l1 = 1) → ((hI h l0 1) ≤ l2) → Z (some (.int 0)) h)
    (k5 : (¬ l2 < 0) → (¬ l1 = 0) → (l1 = 1) → (¬ (hI h l0 1) ≤ l2) → Z (some (.int 1)) h)
    (k6 : (¬ l2 < 0) → (l1 = 0) → (l2 < (hI h l0 0)) → Z (some (.int 1)) h)
    (k7 : (¬ l2 < 0) → (l1 = 0) → (¬ l2 < (hI h l0 0)) → (¬ l1 = 1) → Z (some (.int 0)) h)
    (k8 : (¬ l2 < 0) → (l1 = 0) → (¬ l2 < (hI h l0 0)) → (l1 = 1) → ((hI h l0 1) ≤ l2) → Z (some (.int 0)) h)
    (k9 : (¬ l2 < 0) → (l1 = 0) → (¬ l2 < (hI h l0 0)) → (l1 = 1) → (¬ (hI h l0 1) ≤ l2) → Z (some (.int 1)) h) :
    RR G nc ns m_X6_isNode 0 [some (.ref l0), some (.int l1), some (.int l2)] [] h Z := by
  refine r_iload_n dX6_isNode_0 rfl ?_
  refine r_if_lt 33 dX6_isNode_1 (by decide) (fun q1 => ?_) (fun q1 => ?_)
  · refine r_iconst (v := 0) dX6_isNode_33 (by decide) ?_
    exact r_zreturn dX6_isNode_34 rfl (by decide) (k1 q1)
  · refine r_iload_n dX6_isNode_4 rfl ?_
    refine r_if_ne 16 dX6_isNode_5 (by decide) (fun q2 => ?_) (fun q2 => ?_)
    · refine r_iload_n dX6_isNode_16 rfl ?_
      refine r_iconst (v := 1) dX6_isNode_17 (by decide) ?_
      refine r_icmp_ne 33 dX6_isNode_18 (by decide) (fun q3 => ?_) (fun q3 => ?_)
      · refine r_iconst (v := 0) dX6_isNode_33 (by decide) ?_
        exact r_zreturn dX6_isNode_34 rfl (by decide) (k2 q1 q2 q3)
      · refine r_iload_n dX6_isNode_21 rfl ?_
        refine r_aload_n dX6_isNode_22 rfl ?_
        refine r_get (c := 6) (k := 1) dX6_isNode_23 rfl rfl (by decide) fl_RX6_129 (c3) rfl ?_
        refine r_icmp_ge 33 dX6_isNode_26 (by decide) (fun q4 => ?_) (fun q4 => ?_)
        · refine r_iconst (v := 0) dX6_isNode_33 (by decide) ?_
          exact r_zreturn dX6_isNode_34 rfl (by decide) (k4 q1 q2 q3 q4)
        · refine r_iconst (v := 1) dX6_isNode_29 (by decide) ?_
          refine r_goto (tgt := 34) dX6_isNode_30 (by decide) ?_
          exact r_zreturn dX6_isNode_34 rfl (by decide) (k5 q1 q2 q3 q4)
    · refine r_iload_n dX6_isNode_8 rfl ?_
      refine r_aload_n dX6_isNode_9 rfl ?_
      refine r_get (c := 6) (k := 0) dX6_isNode_10 rfl rfl (by decide) fl_RX6_126 (c3) rfl ?_
      refine r_icmp_lt 29 dX6_isNode_13 (by decide) (fun q5 => ?_) (fun q5 => ?_)
      · refine r_iconst (v := 1) dX6_isNode_29 (by decide) ?_
        refine r_goto (tgt := 34) dX6_isNode_30 (by decide) ?_
        exact r_zreturn dX6_isNode_34 rfl (by decide) (k6 q1 q2 q5)
      · refine r_iload_n dX6_isNode_16 rfl ?_
        refine r_iconst (v := 1) dX6_isNode_17 (by decide) ?_
        refine r_icmp_ne 33 dX6_isNode_18 (by decide) (fun q6 => ?_) (fun q6 => ?_)
        · refine r_iconst (v := 0) dX6_isNode_33 (by decide) ?_
          exact r_zreturn dX6_isNode_34 rfl (by decide) (k7 q1 q2 q5 q6)
        · refine r_iload_n dX6_isNode_21 rfl ?_
          refine r_aload_n dX6_isNode_22 rfl ?_
          refine r_get (c := 6) (k := 1) dX6_isNode_23 rfl rfl (by decide) fl_RX6_129 (c3) rfl ?_
          refine r_icmp_ge 33 dX6_isNode_26 (by decide) (fun q7 => ?_) (fun q7 => ?_)
          · refine r_iconst (v := 0) dX6_isNode_33 (by decide) ?_
            exact r_zreturn dX6_isNode_34 rfl (by decide) (k8 q1 q2 q5 q6 q7)
          · refine r_iconst (v := 1) dX6_isNode_29 (by decide) ?_
            refine r_goto (tgt := 34) dX6_isNode_30 (by decide) ?_
            exact r_zreturn dX6_isNode_34 rfl (by decide) (k9 q1 q2 q5 q6 q7)
