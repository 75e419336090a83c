/-- a fresh row hung into a field of an older object -/
def ins (h : PH) (o s kd n : Nat) : PH := sR (nA h kd n) o s (hN h)
/-- a fresh row of two rows hung into a field of an older object -/
def insM (h : PH) (o s kd kd2 n : Nat) : PH := sR (nM h kd kd2 2 n) o s (hN h)
section INS
variable {h : PH} {o s kd kd2 n a : Nat}
theorem ins_K (e : a < hN h) : hK (ins h o s kd n) a = hK h a := if_neg (by omega)
theorem ins_L (e : a < hN h) : hL (ins h o s kd n) a = hL h a := if_neg (by omega)
theorem ins_I (e : a < hN h) (j : Nat) : hI (ins h o s kd n) a j = hI h a j := congrFun (if_neg (c := a = hN h) (by omega)) j
theorem ins_J (e : a < hN h) (j : Nat) : hJ (ins h o s kd n) a j = hJ h a j := congrFun (if_neg (c := a = hN h) (by omega)) j
theorem ins_R {j : Nat} (e : a < hN h) (ne : ¬ (a = o ∧ j = s)) : hR (ins h o s kd n) a j = hR h a j := by
  show (if a = o ∧ j = s then hN h else u1 (hR h) (hN h) (fun _ => 0) a j) = _
  rw [if_neg ne]
  exact congrFun (if_neg (c := a = hN h) (by omega)) j
theorem ins_r : hR (ins h o s kd n) o s = hN h := if_pos ⟨rfl, rfl⟩
theorem ins_k : hK (ins h o s kd n) (hN h) = kd := if_pos rfl
theorem ins_l : hL (ins h o s kd n) (hN h) = n := if_pos rfl
theorem ins_i (j : Nat) : hI (ins h o s kd n) (hN h) j = 0 := congrFun (if_pos (c := hN h = hN h) rfl) j
theorem ins_j (j : Nat) : hJ (ins h o s kd n) (hN h) j = 0 := congrFun (if_pos (c := hN h = hN h) rfl) j
theorem ins_N : hN (ins h o s kd n) = hN h + 1 := rfl
theorem ins_S : hS (ins h o s kd n) = hS h + n := rfl
theorem ins_ag (e : o < hN h) : AG 0 o h (ins h o s kd n) := fun a _ q => ⟨ins_K (by omega), ins_L (by omega), fun j => ins_R (by omega) (by omega), fun j => ins_I (by omega) j, fun j => ins_J (by omega) j⟩
theorem insM_K (e : a < hN h) : hK (insM h o s kd kd2 n) a = hK h a := by
  show (if a = hN h then kd else if hN h < a ∧ a ≤ hN h + 2 then kd2 else hK h a) = _
  rw [if_neg (by omega), if_neg (by omega)]
theorem insM_L (e : a < hN h) : hL (insM h o s kd kd2 n) a = hL h a := by
  show (if a = hN h then 2 else if hN h < a ∧ a ≤ hN h + 2 then n else hL h a) = _
  rw [if_neg (by omega), if_neg (by omega)]
theorem insM_I (e : a < hN h) (j : Nat) : hI (insM h o s kd kd2 n) a j = hI h a j := if_neg (by omega)
theorem insM_J (e : a < hN h) (j : Nat) : hJ (insM h o s kd kd2 n) a j = hJ h a j := if_neg (by omega)
theorem insM_R {j : Nat} (e : a < hN h) (ne : ¬ (a = o ∧ j = s)) : hR (insM h o s kd kd2 n) a j = hR h a j := by
  show (if a = o ∧ j = s then hN h else if a = hN h then (if j < 2 then hN h + 1 + j else 0) else if hN h < a then 0 else hR h a j) = _
  rw [if_neg ne, if_neg (by omega), if_neg (by omega)]
theorem insM_r : hR (insM h o s kd kd2 n) o s = hN h := if_pos ⟨rfl, rfl⟩
theorem insM_N : hN (insM h o s kd kd2 n) = hN h + 3 := rfl
theorem insM_S : hS (insM h o s kd kd2 n) = hS h + 2 + 2 * n := rfl
theorem insM_k : hK (insM h o s kd kd2 n) (hN h) = kd := if_pos rfl
theorem insM_l : hL (insM h o s kd kd2 n) (hN h) = 2 := if_pos rfl
theorem insM_in {i : Nat} (hi : i < 2) (e : o < hN h) : hK (insM h o s kd kd2 n) (hN h + 1 + i) = kd2 ∧ hL (insM h o s kd kd2 n) (hN h + 1 + i) = n ∧ hR (insM h o s kd kd2 n) (hN h) i = hN h + 1 + i ∧ (∀ j, hI (insM h o s kd kd2 n) (hN h + 1 + i) j = 0) ∧ ∀ j, hJ (insM h o s kd kd2 n) (hN h + 1 + i) j = 0 := by
  refine ⟨?_, ?_, ?_, fun j => if_pos (by omega), fun j => if_pos (by omega)⟩
  · show (if hN h + 1 + i = hN h then kd else if hN h < hN h + 1 + i ∧ hN h + 1 + i ≤ hN h + 2 then kd2 else _) = _
    rw [if_neg (by omega), if_pos (by omega)]
  · show (if hN h + 1 + i = hN h then 2 else if hN h < hN h + 1 + i ∧ hN h + 1 + i ≤ hN h + 2 then n else _) = _
    rw [if_neg (by omega), if_pos (by omega)]
  · show (if hN h = o ∧ i = s then hN h else if hN h = hN h then (if i < 2 then hN h + 1 + i else 0) else _) = _
    rw [if_neg (by omega), if_pos rfl, if_pos hi]
theorem insM_ag (e : o < hN h) : AG 0 o h (insM h o s kd kd2 n) := fun a _ q => ⟨insM_K (by omega), insM_L (by omega), fun j => insM_R (by omega) (by omega), fun j => insM_I (by omega) j, fun j => insM_J (by omega) j⟩
theorem sI_ag {k : Nat} {v : Int32} : AG 0 o h (sI h o k v) := fun a _ q => ⟨rfl, rfl, fun _ => rfl, fun j => sI_ne (by omega), fun _ => rfl⟩
theorem sJ_ag {k : Nat} {v : Int64} : AG 0 o h (sJ h o k v) := fun a _ q => ⟨rfl, rfl, fun _ => rfl, fun _ => rfl, fun j => sJ_ne (by omega)⟩
theorem sR_ag {k : Nat} {v : Nat} : AG 0 o h (sR h o k v) := fun a _ q => ⟨rfl, rfl, fun j => if_neg (by omega), fun _ => rfl, fun _ => rfl⟩
end INS
variable {G : GG} {h : PH} {o m : Nat}
theorem k_graph {c : Int32} (hN0 : hN h = o + 1) (hk : hK h o = 11) (hz : ∀ j, hI h o j = 0) (ho : 0 < o) (hm : m ≤ 50) (hc : c = nI m) : Ev G m_X1_init [.ref o, .int c] h 4 (4 + 2 * m) (RV (fun h' => AG 0 o h h' ∧ GS h' o m (fun _ => 0) (fun _ _ => false) ∧ hI h' o 3 = 0)) := by
  subst hc
  refine Ev.of pn_X1_init (Nat.le_of_ble_eq_true rfl) ?_
  refine s_X1_init_0 hk ?_
  have e1 : hN (sI h o 0 (nI m)) = o + 1 := hN0
  have g1 : AG 0 o h (sI h o 0 (nI m)) := sI_ag
  have k1 : hK (sI h o 0 (nI m)) o = 11 := hk
  have i1 : hI (sI h o 0 (nI m)) o 0 = nI m := sI_eq
  have s1 : hS (sI h o 0 (nI m)) = hS h := rfl
  generalize sI h o 0 (nI m) = h1 at *
  refine s_X1_init_9 (by omega) (by omega) (by rw [show hK (nA h1 2 2) o = hK (ins h1 o 1 2 2) o from rfl, ins_K (by omega)]; exact k1) (by omega) ?_
  show RR _ _ _ _ _ _ _ (ins h1 o 1 2 2) _
  have e2 : hN (ins h1 o 1 2 2) = o + 2 := by rw [ins_N, e1]
  have s2 : hS (ins h1 o 1 2 2) = hS h + 2 := by rw [ins_S, s1]
  have g2 : AG 0 o h (ins h1 o 1 2 2) := g1.trans (ins_ag (by omega))
  have k2 : hK (ins h1 o 1 2 2) o = 11 := (ins_K (by omega)).trans k1
  have i2 : hI (ins h1 o 1 2 2) o 0 = nI m := (ins_I (by omega) 0).trans i1
  have r2 : hR (ins h1 o 1 2 2) o 1 = o + 1 := ins_r.trans e1
  have c2 : hK (ins h1 o 1 2 2) (o + 1) = 2 ∧ hL (ins h1 o 1 2 2) (o + 1) = 2 ∧ ∀ j, hI (ins h1 o 1 2 2) (o + 1) j = 0 := by rw [← e1]; exact ⟨ins_k, ins_l, ins_i⟩
  generalize ins h1 o 1 2 2 = h2 at *
  refine s_X1_init_16 (n1 := m) (nI_pos (by omega)) (nI_clamp (by omega)) (by omega) (by omega) (by omega) (by rw [show hK (nM h2 6 3 2 m) o = hK (insM h2 o 2 6 3 m) o from rfl, insM_K (by omega)]; exact k2) (by omega) ?_
  show RR _ _ _ _ _ _ _ (insM h2 o 2 6 3 m) _
  have e3 : hN (insM h2 o 2 6 3 m) = o + 5 := by rw [insM_N, e2]
  have s3 : hS (insM h2 o 2 6 3 m) = hS h + 2 + 2 + 2 * m := by rw [insM_S, s2]
  have g3 : AG 0 o h (insM h2 o 2 6 3 m) := g2.trans (insM_ag (by omega))
  have k3 : hK (insM h2 o 2 6 3 m) o = 11 := (insM_K (by omega)).trans k2
  have i3 : hI (insM h2 o 2 6 3 m) o 0 = nI m := (insM_I (by omega) 0).trans i2
  have r3 : hR (insM h2 o 2 6 3 m) o 1 = o + 1 := (insM_R (by omega) (by omega)).trans r2
  have r3b : hR (insM h2 o 2 6 3 m) o 2 = o + 2 := insM_r.trans e2
  have c3 : hK (insM h2 o 2 6 3 m) (o + 1) = 2 ∧ hL (insM h2 o 2 6 3 m) (o + 1) = 2 ∧ ∀ j, hI (insM h2 o 2 6 3 m) (o + 1) j = 0 := ⟨(insM_K (by omega)).trans c2.1, (insM_L (by omega)).trans c2.2.1, fun j => (insM_I (by omega) j).trans (c2.2.2 j)⟩
  have d3 : hK (insM h2 o 2 6 3 m) (o + 2) = 6 ∧ hL (insM h2 o 2 6 3 m) (o + 2) = 2 := by rw [← e2]; exact ⟨insM_k, insM_l⟩
  have f3 : ∀ i, i < 2 → hK (insM h2 o 2 6 3 m) (o + 3 + i) = 3 ∧ hL (insM h2 o 2 6 3 m) (o + 3 + i) = m ∧ hR (insM h2 o 2 6 3 m) (o + 2) i = o + 3 + i ∧ (∀ j, hI (insM h2 o 2 6 3 m) (o + 3 + i) j = 0) ∧ ∀ j, hJ (insM h2 o 2 6 3 m) (o + 3 + i) j = 0 := by
    intro i hi
    have := insM_in (h := h2) (o := o) (s := 2) (kd := 6) (kd2 := 3) (n := m) hi (by omega)
    rw [e2] at this
    exact this
  generalize insM h2 o 2 6 3 m = h3 at *
  refine s_X1_init_26 k3 (s_X1_init_31 ⟨⟨rfl, g3.trans sI_ag, ⟨⟨k3, c3.1, c3.2.1, d3.1, d3.2, fun s hs => ⟨(f3 s hs).1, (f3 s hs).2.1, (f3 s hs).2.2.1⟩, r3, r3b, (sI_nk (by decide)).trans i3, hm⟩, fun s hs => ⟨(sI_ne (by omega)).trans (c3.2.2 s), Nat.zero_le _⟩, fun s hs i hi j => ?_, fun l r z => (by cases z)⟩, sI_eq⟩, by rw [show hN (sI h3 o 3 0) = hN h3 from rfl]; omega, by rw [show hS (sI h3 o 3 0) = hS h3 from rfl]; omega⟩)
  show bt (hJ h3 (o + 3 + s) i) j = _
  rw [(f3 s hs).2.2.2.2 i, bt_zero]
  unfold ad
  split <;> rfl
