section HEAP
theorem inT0 : ∀ w ∈ u_ws RX0 TX0 8, w ∈ lw_tbl := by decide +kernel
theorem inT1 : ∀ w ∈ u_ws RX1 TX1 4, w ∈ lw_tbl := by decide +kernel
theorem inT2 : ∀ w ∈ u_ws RX2 TX2 6, w ∈ lw_tbl := by decide +kernel
theorem inT3 : ∀ w ∈ u_ws RX3 TX3 9, w ∈ lw_tbl := by decide +kernel
theorem inT4 : ∀ w ∈ u_ws RX4 TX4 7, w ∈ lw_tbl := by decide +kernel
theorem inT5 : ∀ w ∈ u_ws RX5 TX5 7, w ∈ lw_tbl := by decide +kernel
theorem inT6 : ∀ w ∈ u_ws RX6 TX6 39, w ∈ lw_tbl := by decide +kernel
theorem tblOK : ∀ (c : Nat) (q : vw_C) (t : Nat → FieldType), vwCl[c]? = some q → tyL[c]? = some t → (∀ w ∈ u_ws q.1 q.2.1 q.2.2, w ∈ lw_tbl) ∧ (∀ k, k < q.2.2 → parseFieldDescriptor (q.2.1 k).2.2.1 = some (t k)) ∧ (∀ a, a < q.2.2 → ∀ b, b < q.2.2 → a ≠ b → (q.2.1 a).2.1 ≠ (q.2.1 b).2.1)
  | 0, _, _, h, h' => by cases h; cases h'; exact ⟨inT0, tyX0_ok, nmX0⟩
  | 1, _, _, h, h' => by cases h; cases h'; exact ⟨inT1, tyX1_ok, nmX1⟩
  | 2, _, _, h, h' => by cases h; cases h'; exact ⟨inT2, tyX2_ok, nmX2⟩
  | 3, _, _, h, h' => by cases h; cases h'; exact ⟨inT3, tyX3_ok, nmX3⟩
  | 4, _, _, h, h' => by cases h; cases h'; exact ⟨inT4, tyX4_ok, nmX4⟩
  | 5, _, _, h, h' => by cases h; cases h'; exact ⟨inT5, tyX5_ok, nmX5⟩
  | 6, _, _, h, h' => by cases h; cases h'; exact ⟨inT6, tyX6_ok, nmX6⟩
  | k + 7, _, _, h, _ => by cases h
theorem lay_good (C : String) (T : u_T) (k : Nat) : goodWord (u_lay C T k) = true := by
  unfold u_lay
  split <;> rfl
theorem TB.hts {D : va_G} {s : State} (h : TB D s) {c : Nat} {q : vw_C} {t : Nat → FieldType} (hq : vwCl[c]? = some q) (ht : tyL[c]? = some t) (A : Array Value) : ∀ w ∈ u_ws q.1 q.2.1 q.2.2, w.before A s = true := by
  intro w hw
  have h1 := (tblOK c q t hq ht).1 w hw
  obtain ⟨k, -, rfl⟩ := List.mem_map.mp hw
  exact h.1 _ h1 (lay_good _ _ _) A
theorem fv_congr {ty : FieldType} {h h' : PH} {b j : Nat} (e1 : hI h' b j = hI h b j) (e2 : hJ h' b j = hJ h b j) (e3 : hR h' b j = hR h b j) : fv ty h' b j = fv ty h b j := by
  cases ty <;> simp [fv, e1, e2, e3]
theorem cR.keep {D : va_G} {base : Nat} {s : State} {h h' : PH} {H H' : Heap} {b : Nat} (hk : hK h' b = hK h b) (hl : hL h' b = hL h b) (e1 : ∀ j, hI h' b j = hI h b j) (e2 : ∀ j, hJ h' b j = hJ h b j) (e3 : ∀ j, hR h' b j = hR h b j) (hH : H'[b]? = H[b]?) (hc : cR D base s h H b) : cR D base s h' H' b := by
  obtain ⟨h1, h2, h3⟩ := hc
  refine ⟨fun q => ?_, fun ty q => ?_, fun c r t q1 q2 q3 => ?_⟩
  · rw [hk] at q
    obtain ⟨scr, x1, x2, x3, x4, x5⟩ := h1 q
    exact ⟨scr, hH.trans x1, x2, x3, by rw [hl]; exact x4, fun j hj => by rw [e1]; exact x5 j (by rw [← hl]; exact hj)⟩
  · rw [hk] at q
    obtain ⟨x1, cA, x2, x3⟩ := h2 ty q
    refine ⟨x1, cA, ?_, x3⟩
    rw [hH, x2, hl]
    have e : (fun j => fv ty h b j) = (fun j => fv ty h' b j) := by
      funext j
      exact (fv_congr (e1 j) (e2 j) (e3 j)).symm
    rw [e]
  · rw [hk] at q1
    obtain ⟨x1, x2⟩ := h3 c r t q1 q2 q3
    exact ⟨x1, (x2.kept hH).to (fun k _ => (fv_congr (e1 k) (e2 k) (e3 k)).symm)⟩
variable {G : GG} {nc ns : Nat} {y : MI} {pc : Nat} {L : List (Option Value)} {S : List Value} {h : PH} {Z : Option Value → PH → Prop}
/-- one cell is written: the rest stands -/
theorem HP.put {s : State} {h' : PH} {H H' : Heap} {a : Nat} (hp : HP G s h H) (hk : hK h' = hK h) (hl : hL h' = hL h) (hn : hN h' = hN h) (e1 : ∀ b j, b ≠ a → hI h' b j = hI h b j) (e2 : ∀ b j, b ≠ a → hJ h' b j = hJ h b j) (e3 : ∀ b j, b ≠ a → hR h' b j = hR h b j) (hz : H'.size = H.size) (hH : ∀ q, q ≠ a → H'[q]? = H[q]?) (ha : cR G.2.1 G.2.2 s h' H' a) : HP G s h' H' := by
  refine ⟨by rw [hz, hn]; exact hp.1, by rw [hk, hn]; exact hp.2.1, fun b => ?_, by rw [hn]; exact hp.2.2.2⟩
  by_cases e : b = a
  · rw [e]; exact ha
  · exact (hp.2.2.1 b).keep (by rw [hk]) (by rw [hl]) (fun j => e1 b j e) (fun j => e2 b j e) (fun j => e3 b j e) (hH b e)
theorem RM.put {h' : PH} {locs : List Loc} {cells slots c0 s0 a j : Nat} (hm : RM G nc ns h locs cells slots c0 s0) (hn : hN h' = hN h) (hs : hS h' = hS h) (ha : G.2.2 ≤ a) : RM G nc ns h' (locs ++ [⟨a, j⟩]) cells slots c0 s0 := by
  refine ⟨by rw [hn]; exact hm.1, by rw [hs]; exact hm.2.1, by rw [hn]; exact hm.2.2.1, by rw [hs]; exact hm.2.2.2.1, fun q hq => ?_⟩
  rcases List.mem_append.mp hq with h1 | h1
  · exact hm.2.2.2.2 q h1
  · rw [List.mem_singleton.mp h1]; exact ha
theorem u2_ne {α : Type} {f : Nat → Nat → α} {a k b j : Nat} {v : α} (h : b ≠ a) : u2 f a k v b j = f b j := if_neg (fun q => h q.1)
theorem u2_nk {α : Type} {f : Nat → Nat → α} {a k b j : Nat} {v : α} (h : j ≠ k) : u2 f a k v b j = f b j := if_neg (fun q => h q.2)
theorem u2_eq {α : Type} {f : Nat → Nat → α} {a k : Nat} {v : α} : u2 f a k v a k = v := if_pos ⟨rfl, rfl⟩
/-- reading a field -/
theorem r_get {c : Nat} {q : vw_C} {t : Nat → FieldType} {k idx a : Nat} {v : Value} (hd : decode y.2.1 pc = .ok (.getfield idx, 3)) (hq : vwCl[c]? = some q) (ht : tyL[c]? = some t) (hkk : k < q.2.2) (hw : Cond.fieldLink y.1.cls idx (q.2.1 k).1 (q.2.1 k).2.1 (q.2.1 k).2.2.1 ∈ lw_tbl) (ha : hK h a = 10 + c) (hv : fv (t k) h a k = v)
    (kk : RR G nc ns y (pc + 3) L (v :: S) h Z) : RR G nc ns y pc L (.ref a :: S) h Z := by
  intro p e R s m args below meth cd H locs cells slots c0 s0 ls Q M hp hm hl hr
  obtain ⟨-, cell, q1, q2, q3, q4⟩ := (hp.2.2.1 a).2.2 c q t ha hq ht
  have hT := M.2.2.2.2.1
  obtain ⟨hS, hfc, kC, hkC, hkind⟩ := hT.2.2.2.1 c _ hq
  obtain ⟨cf, kf, fi, f, hi, hsl⟩ := hS k hkk
  refine W.getf M.1 M.2.1 M.2.2.2.1 (hT.1 _ hw rfl args) hi (u_facts hfc hkC (u_lays (hT.hts hq ht args) (fun _ h => h) hkk) hi).1 q1 (by rw [q3]; exact fun h => by cases h) (v := v) ?_ rfl rfl hd (kk p e R s m args below meth cd H locs cells slots c0 s0 ls Q M hp hm hl hr)
  rw [hsl, q4 k hkk]
  exact congrArg some hv
theorem rv_ne {x : Nat} (h : x ≠ 0) : rv x = .ref x := if_neg h
theorem nar_ref {ty : FieldType} (hty : ty.isReference = true) (a : Nat) : narrow ty (.ref a) = .ref a ∧ fits ty (.ref a) = true := by
  cases ty <;> simp [FieldType.isReference] at hty <;> exact ⟨rfl, rfl⟩
/-- writing a field: h' is what the planes are behind it -/
theorem r_put0 {c : Nat} {q : vw_C} {t : Nat → FieldType} {k idx a : Nat} {v : Value} {h' : PH} (hd : decode y.2.1 pc = .ok (.putfield idx, 3)) (hq : vwCl[c]? = some q) (ht : tyL[c]? = some t) (hkk : k < q.2.2) (hw : Cond.fieldLink y.1.cls idx (q.2.1 k).1 (q.2.1 k).2.1 (q.2.1 k).2.2.1 ∈ lw_tbl) (ha : hK h a = 10 + c)
    (hfin : (q.2.1 k).2.2.2 = false ∨ ((q.2.1 k).2.2.2 = true ∧ y.1.name = "<init>" ∧ (q.2.1 k).1 = y.1.cls)) (hn : narrow (t k) v = v) (hf : fits (t k) v = true)
    (ek : hK h' = hK h) (el : hL h' = hL h) (en : hN h' = hN h) (es : hS h' = hS h) (e1 : ∀ b j, b ≠ a → hI h' b j = hI h b j) (e2 : ∀ b j, b ≠ a → hJ h' b j = hJ h b j) (e3 : ∀ b j, b ≠ a → hR h' b j = hR h b j) (ev : fv (t k) h' a k = v) (eo : ∀ j, j ≠ k → fv (t j) h' a j = fv (t j) h a j)
    (kk : RR G nc ns y (pc + 3) L S h' Z) : RR G nc ns y pc L (v :: .ref a :: S) h Z := by
  intro p e R s m args below meth cd H locs cells slots c0 s0 ls Q M hp hm hl hr
  obtain ⟨hba, cell, q1, q2, q3, q4⟩ := (hp.2.2.1 a).2.2 c q t ha hq ht
  have hT := M.2.2.2.2.1
  have hts := hT.hts hq ht args
  obtain ⟨w1, w2, w3⟩ := tblOK c q t hq ht
  have hap := va_apart (own := y.1.cls) (ci := c) hts (fun _ h => h) t w2 w3 hT.2.2.2 hq
  obtain ⟨hS, hfc, kC, hkC, hkind⟩ := hT.2.2.2.1 c _ hq
  obtain ⟨cf, kf, fi, f, hi, hsl⟩ := hS k hkk
  have hst := (u_facts hfc hkC (u_lays hts (fun _ h => h) hkk) hi).1
  have hlay := hts _ (u_in_lay hkk)
  have fin : ∀ H' : Heap, H'[a]? = some (cell.setSlot f.slot v) → H'.size = H.size → (∀ q, q ≠ a → H'[q]? = H[q]?) → W p G.1 e R s m args below meth cd H' (locs ++ [⟨a, f.slot⟩]) cells slots Q { F0 m pc ls (v :: .ref a :: S) with pc := pc + 3, stack := S } := by
    intro H' g1 g2 g3
    refine kk p e R s m args below meth cd H' _ cells slots c0 s0 ls Q M (hp.put ek el en e1 e2 e3 g2 g3 ⟨fun z => ?_, fun ty z => ?_, fun c' q' t' z1 z2 z3 => ?_⟩) (hm.put en es hba) hl hr
    · rw [ek, ha] at z; omega
    · rw [ek, ha] at z
      have : ak (10 + c) = none := by
        rw [show 10 + c = c + 10 by omega]; rfl
      rw [this] at z
      cases z
    · rw [ek, ha] at z1
      have ec : c' = c := by omega
      subst ec
      cases hq.symm.trans z2
      cases ht.symm.trans z3
      refine ⟨hba, cell.setSlot f.slot v, g1, q2, q3, fun j hj => ?_⟩
      rw [hsl, t_set q4 hap hkk v j hj]
      unfold updV
      by_cases ejk : j = k
      · rw [if_pos ejk, ejk]
        exact congrArg some ev.symm
      · rw [if_neg ejk]
        exact congrArg some (eo j ejk).symm
  rcases hfin with hfin | ⟨hfin, hin2, hdecl⟩
  · unfold u_lay at hlay
    rw [if_neg (by rw [hfin]; decide)] at hlay
    have h6 := u_store hfc hkC hkind hlay hi (w2 k hkk) hn hf
    exact W.putK M.1 M.2.1 (f := f) ⟨M.2.2.2.1, hT.1 _ hw rfl args, ⟨_, _, _, hi⟩, hst⟩ (by rw [q2]; exact h6) q1 q3 (by rw [hsl]; exact k2_hasslot (q4 k hkk)) rfl rfl hd fin
  · unfold u_lay at hlay
    rw [if_pos hfin] at hlay
    have hcf : m.cls = cf := by
      obtain ⟨_, _, c', _, _, _, -, -, hf', -, -, -, hown2, -⟩ := Cond.laysFinal_spec hlay
      have e1 : c' = cf := by have := hi.symm.trans hf'; simp at this; exact this.1.symm
      rw [hdecl] at hown2
      rw [← e1]; exact Option.some.inj (M.2.2.2.1.symm.trans hown2)
    have h6 := u_fits hfc hkC hkind (Or.inr hlay) hi (w2 k hkk) hn hf
    exact W.putFinK M.1 M.2.1 M.2.2.2.1 (hT.1 _ hw rfl args) hi hst hcf (M.2.2.2.2.2.1.trans hin2) (by rw [q2]; exact h6) q1 q3 (by rw [hsl]; exact k2_hasslot (q4 k hkk)) rfl rfl hd fin
theorem r_putI {c : Nat} {q : vw_C} {t : Nat → FieldType} {k idx a : Nat} {x : Int32} (hd : decode y.2.1 pc = .ok (.putfield idx, 3)) (hq : vwCl[c]? = some q) (ht : tyL[c]? = some t) (hkk : k < q.2.2) (hw : Cond.fieldLink y.1.cls idx (q.2.1 k).1 (q.2.1 k).2.1 (q.2.1 k).2.2.1 ∈ lw_tbl) (ha : hK h a = 10 + c)
    (hfin : (q.2.1 k).2.2.2 = false ∨ ((q.2.1 k).2.2.2 = true ∧ y.1.name = "<init>" ∧ (q.2.1 k).1 = y.1.cls)) (hty : t k = .int ∨ (t k = .boolean ∧ (x = 0 ∨ x = 1)))
    (kk : RR G nc ns y (pc + 3) L S (sI h a k x) Z) : RR G nc ns y pc L (.int x :: .ref a :: S) h Z := by
  refine r_put0 (h' := sI h a k x) hd hq ht hkk hw ha hfin ?_ ?_ rfl rfl rfl rfl (fun b j hb => u2_ne hb) (fun _ _ _ => rfl) (fun _ _ _ => rfl) ?_ (fun j hj => fv_congr (u2_nk hj) rfl rfl) kk
  · rcases hty with e | ⟨e, rfl | rfl⟩ <;> rw [e] <;> rfl
  · rcases hty with e | ⟨e, rfl | rfl⟩ <;> rw [e] <;> rfl
  · rcases hty with e | ⟨e, -⟩ <;> rw [e] <;> exact congrArg Value.int u2_eq
theorem r_putJ {c : Nat} {q : vw_C} {t : Nat → FieldType} {k idx a : Nat} {x : Int64} (hd : decode y.2.1 pc = .ok (.putfield idx, 3)) (hq : vwCl[c]? = some q) (ht : tyL[c]? = some t) (hkk : k < q.2.2) (hw : Cond.fieldLink y.1.cls idx (q.2.1 k).1 (q.2.1 k).2.1 (q.2.1 k).2.2.1 ∈ lw_tbl) (ha : hK h a = 10 + c)
    (hfin : (q.2.1 k).2.2.2 = false ∨ ((q.2.1 k).2.2.2 = true ∧ y.1.name = "<init>" ∧ (q.2.1 k).1 = y.1.cls)) (hty : t k = .long)
    (kk : RR G nc ns y (pc + 3) L S (sJ h a k x) Z) : RR G nc ns y pc L (.long x :: .ref a :: S) h Z := by
  refine r_put0 (h' := sJ h a k x) hd hq ht hkk hw ha hfin ?_ ?_ rfl rfl rfl rfl (fun _ _ _ => rfl) (fun b j hb => u2_ne hb) (fun _ _ _ => rfl) ?_ (fun j hj => fv_congr rfl (u2_nk hj) rfl) kk
  · rw [hty]; rfl
  · rw [hty]; rfl
  · rw [hty]; exact congrArg Value.long u2_eq
theorem fv_ref {ty : FieldType} (hty : ty.isReference = true) {h : PH} {a k : Nat} : fv ty h a k = rv (hR h a k) := by
  cases ty <;> simp [FieldType.isReference] at hty <;> rfl
theorem r_putR {c : Nat} {q : vw_C} {t : Nat → FieldType} {k idx a x : Nat} (hd : decode y.2.1 pc = .ok (.putfield idx, 3)) (hq : vwCl[c]? = some q) (ht : tyL[c]? = some t) (hkk : k < q.2.2) (hw : Cond.fieldLink y.1.cls idx (q.2.1 k).1 (q.2.1 k).2.1 (q.2.1 k).2.2.1 ∈ lw_tbl) (ha : hK h a = 10 + c)
    (hfin : (q.2.1 k).2.2.2 = false ∨ ((q.2.1 k).2.2.2 = true ∧ y.1.name = "<init>" ∧ (q.2.1 k).1 = y.1.cls)) (hty : (t k).isReference = true) (hx : x ≠ 0)
    (kk : RR G nc ns y (pc + 3) L S (sR h a k x) Z) : RR G nc ns y pc L (.ref x :: .ref a :: S) h Z := by
  refine r_put0 (h' := sR h a k x) hd hq ht hkk hw ha hfin (nar_ref hty x).1 (nar_ref hty x).2 rfl rfl rfl rfl (fun _ _ _ => rfl) (fun _ _ _ => rfl) (fun b j hb => u2_ne hb) ?_ (fun j hj => fv_congr rfl rfl (u2_nk hj)) kk
  rw [fv_ref hty]
  show rv (u2 (hR h) a k x a k) = _
  rw [u2_eq, rv_ne hx]
theorem r_getR {c : Nat} {q : vw_C} {t : Nat → FieldType} {k idx a : Nat} (hd : decode y.2.1 pc = .ok (.getfield idx, 3)) (hq : vwCl[c]? = some q) (ht : tyL[c]? = some t) (hkk : k < q.2.2) (hw : Cond.fieldLink y.1.cls idx (q.2.1 k).1 (q.2.1 k).2.1 (q.2.1 k).2.2.1 ∈ lw_tbl) (ha : hK h a = 10 + c) (hty : (t k).isReference = true) (hx : hR h a k ≠ 0)
    (kk : RR G nc ns y (pc + 3) L (.ref (hR h a k) :: S) h Z) : RR G nc ns y pc L (.ref a :: S) h Z := r_get hd hq ht hkk hw ha (by rw [fv_ref hty, rv_ne hx]) kk
/-- what an array's cell gives -/
theorem HP.arr {s : State} {H : Heap} {a : Nat} {ty : FieldType} (hp : HP G s h H) (ha : ak (hK h a) = some ty) : G.2.2 ≤ a ∧ ∃ cA : ClassId, H[a]? = some (arrV cA (hL h a) (fun j => fv ty h a j)) ∧ ArrOfT s cA ty := (hp.2.2.1 a).2.1 ty ha
theorem vin {i : Int32} {n : Nat} {cA : ClassId} {f : Nat → Value} (hi : vp_in i n) : ¬ (i < 0 ∨ (arrV cA n f).slots.size ≤ i.toNatClampNeg) := by rw [arrV_size]; exact hi
theorem vlt {i : Int32} {n : Nat} (hi : vp_in i n) : i.toNatClampNeg < n := Nat.not_le.mp fun q => hi (Or.inr q)
theorem r_iaload {a : Nat} {i : Int32} (hd : decode y.2.1 pc = .ok (.iaload, 1)) (ha : hK h a = 2) (hi : vp_in i (hL h a)) (kk : RR G nc ns y (pc + 1) L (.int (hI h a i.toNatClampNeg) :: S) h Z) : RR G nc ns y pc L (.int i :: .ref a :: S) h Z := by
  intro p e R s m args below meth cd H locs cells slots c0 s0 ls Q M hp hm hl hr
  obtain ⟨-, cA, g1, g2⟩ := hp.arr (a := a) (ty := .int) (by rw [ha]; rfl)
  exact W.iald (v := .int (hI h a i.toNatClampNeg)) M.1 M.2.1 g1 (g2 _ _) (fun q => by cases q) (vin hi) (arrV_read _ _ (vlt hi)) rfl rfl hd (kk p e R s m args below meth cd H locs cells slots c0 s0 ls Q M hp hm hl hr)
theorem r_saload {a : Nat} {i : Int32} (hd : decode y.2.1 pc = .ok (.iaload, 1)) (ha : hK h a = 1) (hi : vp_in i (hL h a)) (kk : RR G nc ns y (pc + 1) L (.int (hI h a i.toNatClampNeg) :: S) h Z) : RR G nc ns y pc L (.int i :: .ref a :: S) h Z := by
  intro p e R s m args below meth cd H locs cells slots c0 s0 ls Q M hp hm hl hr
  obtain ⟨scr, g1, g2, g3, g4, g5⟩ := (hp.2.2.1 a).1 ha
  exact W.iald (v := .int (hI h a i.toNatClampNeg)) M.1 M.2.1 g1 g2 g3 (by rw [g4]; exact hi) (g5 _ (vlt hi)) rfl rfl hd (kk p e R s m args below meth cd H locs cells slots c0 s0 ls Q M hp hm hl hr)
theorem r_laload {a : Nat} {i : Int32} (hd : decode y.2.1 pc = .ok (.laload, 1)) (ha : hK h a = 3) (hi : vp_in i (hL h a)) (kk : RR G nc ns y (pc + 1) L (.long (hJ h a i.toNatClampNeg) :: S) h Z) : RR G nc ns y pc L (.int i :: .ref a :: S) h Z := by
  intro p e R s m args below meth cd H locs cells slots c0 s0 ls Q M hp hm hl hr
  obtain ⟨-, cA, g1, g2⟩ := hp.arr (a := a) (ty := .long) (by rw [ha]; rfl)
  exact W.lald (v := .long (hJ h a i.toNatClampNeg)) M.1 M.2.1 g1 (g2 _ _) (fun q => by cases q) (vin hi) (arrV_read _ _ (vlt hi)) rfl rfl hd (kk p e R s m args below meth cd H locs cells slots c0 s0 ls Q M hp hm hl hr)
theorem r_baload {a : Nat} {i : Int32} (hd : decode y.2.1 pc = .ok (.baload, 1)) (ha : hK h a = 4) (hi : vp_in i (hL h a)) (kk : RR G nc ns y (pc + 1) L (.int (hI h a i.toNatClampNeg) :: S) h Z) : RR G nc ns y pc L (.int i :: .ref a :: S) h Z := by
  intro p e R s m args below meth cd H locs cells slots c0 s0 ls Q M hp hm hl hr
  obtain ⟨-, cA, g1, g2⟩ := hp.arr (a := a) (ty := .boolean) (by rw [ha]; rfl)
  exact W.zald (v := .int (hI h a i.toNatClampNeg)) M.1 M.2.1 g1 (g2 _ _) (fun q => by cases q) (vin hi) (arrV_read _ _ (vlt hi)) rfl rfl hd (kk p e R s m args below meth cd H locs cells slots c0 s0 ls Q M hp hm hl hr)
theorem r_aaload {a : Nat} {i : Int32} (hd : decode y.2.1 pc = .ok (.aaload, 1)) (ha : hK h a = 5 ∨ hK h a = 6) (hi : vp_in i (hL h a)) (hx : hR h a i.toNatClampNeg ≠ 0) (kk : RR G nc ns y (pc + 1) L (.ref (hR h a i.toNatClampNeg) :: S) h Z) : RR G nc ns y pc L (.int i :: .ref a :: S) h Z := by
  intro p e R s m args below meth cd H locs cells slots c0 s0 ls Q M hp hm hl hr
  rcases ha with ha | ha
  · obtain ⟨-, cA, g1, g2⟩ := hp.arr (a := a) (ty := .array .int) (by rw [ha]; rfl)
    exact W.aald (v := .ref (hR h a i.toNatClampNeg)) M.1 M.2.1 g1 (g2 _ _) rfl (fun q => by cases q) (vin hi) ((arrV_read _ _ (vlt hi)).trans (congrArg some (rv_ne hx))) rfl rfl hd (kk p e R s m args below meth cd H locs cells slots c0 s0 ls Q M hp hm hl hr)
  · obtain ⟨-, cA, g1, g2⟩ := hp.arr (a := a) (ty := .array .long) (by rw [ha]; rfl)
    exact W.aald (v := .ref (hR h a i.toNatClampNeg)) M.1 M.2.1 g1 (g2 _ _) rfl (fun q => by cases q) (vin hi) ((arrV_read _ _ (vlt hi)).trans (congrArg some (rv_ne hx))) rfl rfl hd (kk p e R s m args below meth cd H locs cells slots c0 s0 ls Q M hp hm hl hr)
theorem r_alen {a : Nat} (hd : decode y.2.1 pc = .ok (.arraylength, 1)) (ha : (ak (hK h a)).isSome = true ∨ hK h a = 1) (kk : RR G nc ns y (pc + 1) L (.int (nI (hL h a)) :: S) h Z) : RR G nc ns y pc L (.ref a :: S) h Z := by
  intro p e R s m args below meth cd H locs cells slots c0 s0 ls Q M hp hm hl hr
  rcases ha with ha | ha
  · obtain ⟨ty, ha⟩ := Option.isSome_iff_exists.mp ha
    obtain ⟨-, cA, g1, g2⟩ := hp.arr ha
    exact W.alen (n := nI (hL h a)) M.1 M.2.1 g1 (g2 _ _) (by rw [arrV_size]; rfl) rfl rfl hd (kk p e R s m args below meth cd H locs cells slots c0 s0 ls Q M hp hm hl hr)
  · obtain ⟨scr, g1, g2, g3, g4, g5⟩ := (hp.2.2.1 a).1 ha
    exact W.alen (n := nI (hL h a)) M.1 M.2.1 g1 g2 (by rw [g4]; rfl) rfl rfl hd (kk p e R s m args below meth cd H locs cells slots c0 s0 ls Q M hp hm hl hr)
/-- the written array's own cell -/
theorem cR_arr {s : State} {h' : PH} {H' : Heap} {a : Nat} {ty : FieldType} {cA : ClassId} (hk : ak (hK h' a) = some ty) (hb : G.2.2 ≤ a) (h1 : H'[a]? = some (arrV cA (hL h' a) (fun j => fv ty h' a j))) (h2 : ArrOfT s cA ty) : cR G.2.1 G.2.2 s h' H' a := by
  refine ⟨fun z => ?_, fun ty' z => ?_, fun c q t z _ _ => ?_⟩
  · rw [z] at hk; cases hk
  · cases hk.symm.trans z; exact ⟨hb, cA, h1, h2⟩
  · rw [z, show 10 + c = c + 10 by omega] at hk; cases hk
theorem r_iastore {a : Nat} {i x : Int32} (hd : decode y.2.1 pc = .ok (.iastore, 1)) (ha : hK h a = 2) (hi : vp_in i (hL h a)) (kk : RR G nc ns y (pc + 1) L S (sI h a i.toNatClampNeg x) Z) : RR G nc ns y pc L (.int x :: .int i :: .ref a :: S) h Z := by
  intro p e R s m args below meth cd H locs cells slots c0 s0 ls Q M hp hm hl hr
  obtain ⟨hb, cA, g1, g2⟩ := hp.arr (a := a) (ty := .int) (by rw [ha]; rfl)
  refine W.iast M.1 M.2.1 g1 (g2 _ _) (fun q => by cases q) (vin hi) rfl rfl hd fun H' e1 e2 e3 => ?_
  refine kk p e R s m args below meth cd H' _ cells slots c0 s0 ls Q M (hp.put (h' := sI h a i.toNatClampNeg x) rfl rfl rfl (fun b j hb => u2_ne hb) (fun _ _ _ => rfl) (fun _ _ _ => rfl) e2 e3 (cR_arr (ty := .int) (cA := cA) (by show ak (hK h a) = _; rw [ha]; rfl) hb ?_ g2)) (hm.put rfl rfl hb) hl hr
  rw [e1, arrV_store]
  congr 2
  funext j
  show (if j = i.toNatClampNeg then Value.int x else .int (hI h a j)) = .int (u2 (hI h) a i.toNatClampNeg x a j)
  by_cases ej : j = i.toNatClampNeg
  · rw [if_pos ej, ej, u2_eq]
  · rw [if_neg ej, u2_nk ej]
theorem r_bastore {a : Nat} {i x : Int32} (hd : decode y.2.1 pc = .ok (.bastore, 1)) (ha : hK h a = 4) (hi : vp_in i (hL h a)) (hx : x = 0 ∨ x = 1) (kk : RR G nc ns y (pc + 1) L S (sI h a i.toNatClampNeg x) Z) : RR G nc ns y pc L (.int x :: .int i :: .ref a :: S) h Z := by
  intro p e R s m args below meth cd H locs cells slots c0 s0 ls Q M hp hm hl hr
  obtain ⟨hb, cA, g1, g2⟩ := hp.arr (a := a) (ty := .boolean) (by rw [ha]; rfl)
  refine W.zast M.1 M.2.1 g1 (g2 _ _) (fun q => by cases q) (vin hi) rfl rfl hd fun H' e1 e2 e3 => ?_
  refine kk p e R s m args below meth cd H' _ cells slots c0 s0 ls Q M (hp.put (h' := sI h a i.toNatClampNeg x) rfl rfl rfl (fun b j hb => u2_ne hb) (fun _ _ _ => rfl) (fun _ _ _ => rfl) e2 e3 (cR_arr (ty := .boolean) (cA := cA) (by show ak (hK h a) = _; rw [ha]; rfl) hb ?_ g2)) (hm.put rfl rfl hb) hl hr
  have en : narrow .boolean (.int x) = .int x := by rcases hx with rfl | rfl <;> rfl
  rw [e1, arrV_store, en]
  congr 2
  funext j
  show (if j = i.toNatClampNeg then Value.int x else .int (hI h a j)) = .int (u2 (hI h) a i.toNatClampNeg x a j)
  by_cases ej : j = i.toNatClampNeg
  · rw [if_pos ej, ej, u2_eq]
  · rw [if_neg ej, u2_nk ej]
theorem r_lastore {a : Nat} {i : Int32} {x : Int64} (hd : decode y.2.1 pc = .ok (.lastore, 1)) (ha : hK h a = 3) (hi : vp_in i (hL h a)) (kk : RR G nc ns y (pc + 1) L S (sJ h a i.toNatClampNeg x) Z) : RR G nc ns y pc L (.long x :: .int i :: .ref a :: S) h Z := by
  intro p e R s m args below meth cd H locs cells slots c0 s0 ls Q M hp hm hl hr
  obtain ⟨hb, cA, g1, g2⟩ := hp.arr (a := a) (ty := .long) (by rw [ha]; rfl)
  refine W.last M.1 M.2.1 g1 (g2 _ _) (fun q => by cases q) (vin hi) rfl rfl hd fun H' e1 e2 e3 => ?_
  refine kk p e R s m args below meth cd H' _ cells slots c0 s0 ls Q M (hp.put (h' := sJ h a i.toNatClampNeg x) rfl rfl rfl (fun _ _ _ => rfl) (fun b j hb => u2_ne hb) (fun _ _ _ => rfl) e2 e3 (cR_arr (ty := .long) (cA := cA) (by show ak (hK h a) = _; rw [ha]; rfl) hb ?_ g2)) (hm.put rfl rfl hb) hl hr
  rw [e1, arrV_store]
  congr 2
  funext j
  show (if j = i.toNatClampNeg then Value.long x else .long (hJ h a j)) = .long (u2 (hJ h) a i.toNatClampNeg x a j)
  by_cases ej : j = i.toNatClampNeg
  · rw [if_pos ej, ej, u2_eq]
  · rw [if_neg ej, u2_nk ej]
end HEAP
