section DET
variable {G : GG} {nc ns : Nat} {y : MI} {pc : Nat} {L : List (Option Value)} {S : List Value} {h : PH} {Z : Option Value → PH → Prop}
/-- a call's end that is known: answer and planes -/
def Ret (v : Option Value) (h1 : PH) : Option Value → PH → Prop := fun v' h' => v' = v ∧ h' = h1
def RV (P : PH → Prop) : Option Value → PH → Prop := fun v h' => v = none ∧ P h'
def RI (P : Int32 → PH → Prop) : Option Value → PH → Prop := fun v h' => ∃ x : Int32, v = some (.int x) ∧ P x h'
def RJ (P : Int64 → PH → Prop) : Option Value → PH → Prop := fun v h' => ∃ x : Int64, v = some (.long x) ∧ P x h'
theorem r_callV1 {y2 : MI} {n mc ms idx c b : Nat} {q : vw_C} {As : List Value} {v : Option Value} {h1 : PH} {st0 : List Value} (hd : decode y.2.1 pc = .ok (.invokevirtual idx, 3)) (hc : CK y2 n) (hi : Cond.instanceMethod y2.1 ∈ lw_tbl) (hs : Cond.selects y2.1.cls y2.1 y2.1 ∈ lw_tbl) (hw : Cond.methodLink y.1.cls idx y2.1 ∈ lw_tbl) (hq : vwCl[c]? = some q) (hqn : q.1 = y2.1.cls) (hb : hK h b = 10 + c)
    (hfr : y2.2.2.2.2.1 + 1 ≤ y.2.2.2.2.1) (hlo : 8 + (y2.2.2.1 + 11) + y2.2.2.2.2.2 ≤ y.2.2.2.2.2) (hn : As.length = n) (hst : st0 = As.reverse ++ .ref b :: S) (hcat : (S.map fun v => v.category).sum ≤ 8) (e1 : mc = 0 ∨ hN h + mc ≤ nc) (e2 : ms = 0 ∨ hS h + ms ≤ ns)
    (he : Ev G y2 (.ref b :: As) h mc ms (Ret v h1)) (kk : RR G nc ns y (pc + 3) L (v.toList ++ S) h1 Z) : RR G nc ns y pc L st0 h Z :=
  r_callV hd hc hi hs hw hq hqn hb hfr hlo hn hst hcat e1 e2 he (fun v' h' z _ _ => by obtain ⟨rfl, rfl⟩ := z; exact kk)
theorem r_callI1 {y2 : MI} {n mc ms idx b : Nat} {As : List Value} {v : Option Value} {h1 : PH} {st0 : List Value} (hd : decode y.2.1 pc = .ok (.invokespecial idx, 3)) (hc : CK y2 n) (hi : Cond.instanceMethod y2.1 ∈ lw_tbl) (hini : y2.1.name = "<init>") (hret : y2.2.2.2.1 = none) (hw : Cond.methodLink y.1.cls idx y2.1 ∈ lw_tbl)
    (hfr : y2.2.2.2.2.1 + 1 ≤ y.2.2.2.2.1) (hlo : 8 + (y2.2.2.1 + 11) + y2.2.2.2.2.2 ≤ y.2.2.2.2.2) (hn : As.length = n) (hst : st0 = As.reverse ++ .ref b :: S) (hcat : (S.map fun v => v.category).sum ≤ 8) (e1 : mc = 0 ∨ hN h + mc ≤ nc) (e2 : ms = 0 ∨ hS h + ms ≤ ns)
    (he : Ev G y2 (.ref b :: As) h mc ms (Ret v h1)) (kk : RR G nc ns y (pc + 3) L (v.toList ++ S) h1 Z) : RR G nc ns y pc L st0 h Z :=
  r_callI hd hc hi hini hret hw hfr hlo hn hst hcat e1 e2 he (fun v' h' z _ _ => by obtain ⟨rfl, rfl⟩ := z; exact kk)
theorem r_callS1 {y2 : MI} {n mc ms idx : Nat} {As : List Value} {v : Option Value} {h1 : PH} {st0 : List Value} (hd : decode y.2.1 pc = .ok (.invokestatic idx, 3)) (hc : CK y2 n) (hi : Cond.static y2.1 ∈ lw_tbl) (hw : Cond.methodLink y.1.cls idx y2.1 ∈ lw_tbl)
    (hfr : y2.2.2.2.2.1 + 1 ≤ y.2.2.2.2.1) (hlo : 8 + (y2.2.2.1 + 11) + y2.2.2.2.2.2 ≤ y.2.2.2.2.2) (hn : As.length = n) (hst : st0 = As.reverse ++ S) (hcat : (S.map fun v => v.category).sum ≤ 8) (e1 : mc = 0 ∨ hN h + mc ≤ nc) (e2 : ms = 0 ∨ hS h + ms ≤ ns)
    (he : Ev G y2 As h mc ms (Ret v h1)) (kk : RR G nc ns y (pc + 3) L (v.toList ++ S) h1 Z) : RR G nc ns y pc L st0 h Z :=
  r_callS hd hc hi hw hfr hlo hn hst hcat e1 e2 he (fun v' h' z _ _ => by obtain ⟨rfl, rfl⟩ := z; exact kk)
theorem r_callSN1 {y2 : MI} {n mc ms idx : Nat} {host : String} {As : List Value} {v : Option Value} {h1 : PH} {st0 : List Value} (hd : decode y.2.1 pc = .ok (.invokestatic idx, 3)) (hc : CK y2 n) (hi : Cond.static y2.1 ∈ lw_tbl) (hw : Cond.methodLinkNest y.1.cls idx y2.1 host ∈ lw_tbl)
    (hfr : y2.2.2.2.2.1 + 1 ≤ y.2.2.2.2.1) (hlo : 8 + (y2.2.2.1 + 11) + y2.2.2.2.2.2 ≤ y.2.2.2.2.2) (hn : As.length = n) (hst : st0 = As.reverse ++ S) (hcat : (S.map fun v => v.category).sum ≤ 8) (e1 : mc = 0 ∨ hN h + mc ≤ nc) (e2 : ms = 0 ∨ hS h + ms ≤ ns)
    (he : Ev G y2 As h mc ms (Ret v h1)) (kk : RR G nc ns y (pc + 3) L (v.toList ++ S) h1 Z) : RR G nc ns y pc L st0 h Z :=
  r_callSN hd hc hi hw hfr hlo hn hst hcat e1 e2 he (fun v' h' z _ _ => by obtain ⟨rfl, rfl⟩ := z; exact kk)
theorem r_mmin {idx : Nat} {x z : Int32} (hd : decode y.2.1 pc = .ok (.invokestatic idx, 3)) (hw : Cond.methodLink y.1.cls idx m_J9_min_7cf53.1 ∈ lw_tbl) (hfr : 1 ≤ y.2.2.2.2.1) (hlo : 21 ≤ y.2.2.2.2.2) (hcat : (S.map fun v => v.category).sum ≤ 8)
    (kk : RR G nc ns y (pc + 3) L (.int (if z < x then z else x) :: S) h Z) : RR G nc ns y pc L (.int z :: .int x :: S) h Z := by
  intro p e R s m args below meth cd H locs cells slots c0 s0 ls Q M hp hm hl hr
  have hT := M.2.2.2.2.1
  have f1 := M.2.2.2.2.2.2.2.2.1
  have f2 := M.2.2.2.2.2.2.2.2.2.1
  have f3 := M.2.2.2.2.2.2.2.2.2.2.1
  have f4 := M.2.2.2.2.2.2.2.2.2.2.2
  obtain ⟨g0, g1, g2, g3, -⟩ := id hm
  have c3 := ck_J9_min_7cf53.2.2.1
  refine va_mmin M.1 M.2.1 (M.2.2.1.trans hl.1.symm) M.2.2.2.1 (hT.1 _ hw rfl args) (hT.1 _ sv_J9_min_7cf53 rfl args) (hT.1 _ ck_J9_min_7cf53.2.2.2 rfl args) (hT.1 _ c3 rfl args) (by omega) (by omega) (by omega) (by omega) hd (kk p e R s m args below meth cd H locs cells slots c0 s0 ls Q M hp hm hl hr)
theorem r_ialoadJ {a : Nat} {i : Int32} (j : Nat) (hd : decode y.2.1 pc = .ok (.iaload, 1)) (ha : hK h a = 2) (hi : vp_in i (hL h a)) (hj : i.toNatClampNeg = j) (kk : RR G nc ns y (pc + 1) L (.int (hI h a j) :: S) h Z) : RR G nc ns y pc L (.int i :: .ref a :: S) h Z := by
  subst hj
  exact r_iaload hd ha hi kk
theorem r_saloadJ {a : Nat} {i : Int32} (j : Nat) (hd : decode y.2.1 pc = .ok (.iaload, 1)) (ha : hK h a = 1) (hi : vp_in i (hL h a)) (hj : i.toNatClampNeg = j) (kk : RR G nc ns y (pc + 1) L (.int (hI h a j) :: S) h Z) : RR G nc ns y pc L (.int i :: .ref a :: S) h Z := by
  subst hj
  exact r_saload hd ha hi kk
theorem r_baloadJ {a : Nat} {i : Int32} (j : Nat) (hd : decode y.2.1 pc = .ok (.baload, 1)) (ha : hK h a = 4) (hi : vp_in i (hL h a)) (hj : i.toNatClampNeg = j) (kk : RR G nc ns y (pc + 1) L (.int (hI h a j) :: S) h Z) : RR G nc ns y pc L (.int i :: .ref a :: S) h Z := by
  subst hj
  exact r_baload hd ha hi kk
theorem r_laloadJ {a : Nat} {i : Int32} (j : Nat) (hd : decode y.2.1 pc = .ok (.laload, 1)) (ha : hK h a = 3) (hi : vp_in i (hL h a)) (hj : i.toNatClampNeg = j) (kk : RR G nc ns y (pc + 1) L (.long (hJ h a j) :: S) h Z) : RR G nc ns y pc L (.int i :: .ref a :: S) h Z := by
  subst hj
  exact r_laload hd ha hi kk
theorem r_aaloadJ {a : Nat} {i : Int32} (j : Nat) (hd : decode y.2.1 pc = .ok (.aaload, 1)) (ha : (hK h a = 5 ∨ hK h a = 6)) (hi : vp_in i (hL h a)) (hj : i.toNatClampNeg = j) (hx : hR h a j ≠ 0) (kk : RR G nc ns y (pc + 1) L (.ref (hR h a j) :: S) h Z) : RR G nc ns y pc L (.int i :: .ref a :: S) h Z := by
  subst hj
  exact r_aaload hd ha hi hx kk
theorem r_iastoreJ {a : Nat} {i : Int32} {x : Int32} (j : Nat) (hd : decode y.2.1 pc = .ok (.iastore, 1)) (ha : hK h a = 2) (hi : vp_in i (hL h a)) (hj : i.toNatClampNeg = j) (kk : RR G nc ns y (pc + 1) L S (sI h a j x) Z) : RR G nc ns y pc L (.int x :: .int i :: .ref a :: S) h Z := by
  subst hj
  exact r_iastore hd ha hi kk
theorem r_bastoreJ {a : Nat} {i : Int32} {x : Int32} (j : Nat) (hd : decode y.2.1 pc = .ok (.bastore, 1)) (ha : hK h a = 4) (hi : vp_in i (hL h a)) (hj : i.toNatClampNeg = j) (hx : x = 0 ∨ x = 1) (kk : RR G nc ns y (pc + 1) L S (sI h a j x) Z) : RR G nc ns y pc L (.int x :: .int i :: .ref a :: S) h Z := by
  subst hj
  exact r_bastore hd ha hi hx kk
theorem r_lastoreJ {a : Nat} {i : Int32} {x : Int64} (j : Nat) (hd : decode y.2.1 pc = .ok (.lastore, 1)) (ha : hK h a = 3) (hi : vp_in i (hL h a)) (hj : i.toNatClampNeg = j) (kk : RR G nc ns y (pc + 1) L S (sJ h a j x) Z) : RR G nc ns y pc L (.long x :: .int i :: .ref a :: S) h Z := by
  subst hj
  exact r_lastore hd ha hi kk
/-- the first list knows less than the second -/
def subL : List (Option Value) → List (Option Value) → Prop
  | [], _ => True
  | none :: t, _ :: t' => subL t t'
  | some v :: t, some w :: t' => v = w ∧ subL t t'
  | _ :: _, _ => False
theorem subL_get : ∀ (A B : List (Option Value)), subL A B → ∀ (i : Nat) (v : Value), A[i]? = some (some v) → B[i]? = some (some v)
  | [], _, _, i, v, h => by simp at h
  | none :: t, _ :: t', hs, i, v, h => by
    cases i with
    | zero => simp at h
    | succ i => exact subL_get t t' hs i v (by simpa using h)
  | some w :: t, some w' :: t', hs, i, v, h => by
    cases i with
    | zero => rw [← hs.1]; simpa using h
    | succ i => exact subL_get t t' hs.2 i v (by simpa using h)
  | none :: _, [], hs, _, _, _ => hs.elim
  | some _ :: _, [], hs, _, _, _ => hs.elim
  | some _ :: _, none :: _, hs, _, _, _ => hs.elim
theorem RR.sub {L' : List (Option Value)} (k : RR G nc ns y pc L' S h Z) (hs : subL L' L) : RR G nc ns y pc L S h Z := k.mono (subL_get _ _ hs) (fun _ _ z => z)
end DET
