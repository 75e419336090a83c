section MULTI
/-- new T[2][m] on the heap of s: the outer row, then twice an inner one that is hung into it -/
def mm2 (s : State) (o i : Cell) : State := (((((s.pushCell o).pushCell i).setCell s.heap.size (o.setSlot 0 (.ref (s.heap.size + 1)))).pushCell i).setCell s.heap.size ((o.setSlot 0 (.ref (s.heap.size + 1))).setSlot 1 (.ref (s.heap.size + 2))))
theorem mm_h1 {H : Heap} {o i : Cell} : ((H.push o).push i)[H.size]? = some o := by
  rw [Array.getElem?_push, if_neg (by rw [Array.size_push]; omega), Array.getElem?_push, if_pos rfl]
theorem mm_h2 {H : Heap} {o i o' : Cell} : ((((H.push o).push i).setIfInBounds H.size o').push i)[H.size]? = some o' := by
  rw [Array.getElem?_push, if_neg (by rw [Array.size_setIfInBounds, Array.size_push, Array.size_push]; omega), Array.getElem?_setIfInBounds, if_pos rfl, if_pos (by rw [Array.size_push, Array.size_push]; omega)]
theorem mm_fits {t : FieldType} (h : t.isReference = true) : fits t .null = true ∧ ∀ a, fits t (.ref a) = true := by
  cases t <;> simp [FieldType.isReference] at h <;> exact ⟨rfl, fun _ => rfl⟩
theorem mm_wp1 {E : CtlPost} {e : Env} {d : Bool} {acts : List Action} {s : State} {comp cc : ClassId} {kc : Class} {type : FieldType} {m : Int32} {Q : Addr → Pre} (hkc : s.vm.classes[comp]? = some kc) (hkd : kc.kind = .array cc type) (hm : ¬ m < 0)
    (hl : ¬ m.toNatClampNeg > e.platform.arrayLengthLimit) (hh : ¬ m.toNatClampNeg * componentBytes type > e.platform.maxHeapBytes) (hf : fits type (defaultValue type) = true)
    (h1 : s.heap.size < e.platform.maxCells) (h2 : s.slotsUsed + m.toNatClampNeg ≤ e.platform.maxSlots)
    (hq : ∀ acts', Q s.heap.size d acts' (s.pushCell { cls := comp, slots := Array.replicate m.toNatClampNeg (defaultValue type) })) : wp (multianewarray.make comp [m]) Q E e d acts s := by
  rw [multianewarray.make]
  simp only [wp_bind', W.ite, hm, if_false, wp_pure', W.theClass, hkc, hkd, Option.some.injEq, exists_eq_left']
  exact W.newArray_of hkc hkd hl hh h1 h2 hf hq
theorem mm_wp2 {E : CtlPost} {e : Env} {d : Bool} {acts : List Action} {s : State} {c comp cc : ClassId} {k kc : Class} {t0 type : FieldType} {n m : Int32} {Q : Addr → Pre} (hk : s.vm.classes[c]? = some k) (hkd : k.kind = .array comp t0) (href : t0.isReference = true) (hkc : s.vm.classes[comp]? = some kc) (hkdc : kc.kind = .array cc type)
    (hn : ¬ n < 0) (hn2 : n.toNatClampNeg = 2) (hm : ¬ m < 0) (hl0 : ¬ 2 > e.platform.arrayLengthLimit) (hh0 : ¬ 2 * componentBytes t0 > e.platform.maxHeapBytes)
    (hl : ¬ m.toNatClampNeg > e.platform.arrayLengthLimit) (hh : ¬ m.toNatClampNeg * componentBytes type > e.platform.maxHeapBytes) (hf : fits type (defaultValue type) = true)
    (h1 : s.heap.size + 3 ≤ e.platform.maxCells) (h2 : s.slotsUsed + (2 + 2 * m.toNatClampNeg) ≤ e.platform.maxSlots)
    (hq : ∀ d' acts', Q s.heap.size d' acts' (mm2 s { cls := c, slots := Array.replicate 2 .null } { cls := comp, slots := Array.replicate m.toNatClampNeg (defaultValue type) })) : wp (multianewarray.make c [n, m]) Q E e d acts s := by
  have hfd : ([m].find? (· < 0)) = none := by simp [hm]
  rw [multianewarray.make]
  simp only [wp_bind', W.ite, hn, if_false, wp_pure', W.theClass, hk, hkd, Option.some.injEq, exists_eq_left']
  refine W.newArray_of hk hkd (by rw [hn2]; exact hl0) (by rw [hn2]; exact hh0) (by omega) (by rw [hn2]; omega) (mm_fits href).1 (fun acts1 => ?_)
  simp only [hfd]
  rw [ite_self, wp_bind', Std.Legacy.Range.forIn_eq_forIn_range', hn2]
  show wp (forIn [0, 1] PUnit.unit _) _ E e d acts1 _
  simp only [List.forIn_cons, List.forIn_nil, wp_bind', wp_pure']
  refine mm_wp1 hkc hkdc hm hl hh hf (by show (s.heap.push _).size < _; rw [Array.size_push]; omega) (by show s.slotsUsed + (Array.replicate 2 Value.null).size + _ ≤ _; rw [Array.size_replicate]; omega) (fun acts2 => ?_)
  simp only [W.writeLoc, wp_bind', wp_pure']
  refine ⟨{ cls := c, slots := Array.replicate 2 .null }, ?_, fun h => (by cases h), (by simp), ?_, ?_⟩
  · exact mm_h1
  · simp [State.fitsSlot, State.slotType?, hk, hkd, (mm_fits href).2]
  refine mm_wp1 hkc hkdc hm hl hh hf (by simp; omega) (by simp [State.slotsUsed_setCell, State.slotsUsed_pushCell]; omega) (fun acts3 => ?_)
  simp only [W.writeLoc, wp_bind', wp_pure']
  refine ⟨({ cls := c, slots := Array.replicate 2 .null } : Cell).setSlot 0 (.ref (s.heap.size + 1)), ?_, fun h => (by cases h), (by simp [Cell.setSlot]), ?_, ?_⟩
  · simp only [State.heap_pushCell, State.heap_setCell, Array.size_push]
    exact mm_h2
  · simp [State.fitsSlot, State.slotType?, Cell.setSlot, hk, hkd, (mm_fits href).2]
  · have := hq d
    simpa [mm2] using hq _ _
theorem mm_heap {H : Heap} {o i o1 o2 : Cell} : (((((H.push o).push i).setIfInBounds H.size o1).push i).setIfInBounds H.size o2).size = H.size + 3 ∧ (((((H.push o).push i).setIfInBounds H.size o1).push i).setIfInBounds H.size o2)[H.size]? = some o2 ∧
    (((((H.push o).push i).setIfInBounds H.size o1).push i).setIfInBounds H.size o2)[H.size + 1]? = some i ∧ (((((H.push o).push i).setIfInBounds H.size o1).push i).setIfInBounds H.size o2)[H.size + 2]? = some i ∧ ∀ q, q < H.size → (((((H.push o).push i).setIfInBounds H.size o1).push i).setIfInBounds H.size o2)[q]? = H[q]? := by
  have z2 : ((H.push o).push i).size = H.size + 2 := by rw [Array.size_push, Array.size_push]
  have z3 : (((H.push o).push i).setIfInBounds H.size o1).size = H.size + 2 := by rw [Array.size_setIfInBounds, z2]
  have z4 : ((((H.push o).push i).setIfInBounds H.size o1).push i).size = H.size + 3 := by rw [Array.size_push, z3]
  refine ⟨by rw [Array.size_setIfInBounds, z4], ?_, ?_, ?_, fun q hq => ?_⟩
  · rw [Array.getElem?_setIfInBounds, if_pos rfl, if_pos (by omega)]
  · rw [Array.getElem?_setIfInBounds, if_neg (by omega), Array.getElem?_push, if_neg (by omega), Array.getElem?_setIfInBounds, if_neg (by omega), Array.getElem?_push, if_pos (by rw [Array.size_push])]
  · rw [Array.getElem?_setIfInBounds, if_neg (by omega), Array.getElem?_push, if_pos (by omega)]
  · rw [Array.getElem?_setIfInBounds, if_neg (by omega), Array.getElem?_push, if_neg (by omega), Array.getElem?_setIfInBounds, if_neg (by omega), Array.getElem?_push, if_neg (by rw [Array.size_push]; omega), Array.getElem?_push, if_neg (by omega)]
variable {p : Program} {l : Launch} {e : Env} {R : Room} {s : State} {m : MethodId} {args : Array Value} {below : List Frame} {meth : Method} {c : Code} {H : Heap} {locs : List Loc} {cells slots : Nat} {Q : State → Prop}
theorem W.multi2 {cc : ByteArray} (hexec : p.tables.exec = Jvm.exec) (hb : c.code = cc) {own : String} {index : Nat} {ty : FieldType} (hown : s.vm.findClass own = some m.cls) (hclink : (Cond.classLink own index ("[" ++ (FieldType.array ty).toString)).before args s = true) (hover : (Cond.arrayOver (.array ty)).before args s = true) (harr : (Cond.arrayClass ty).before args s = true)
    {g : JFrame} (hg : g.method = m) (hdg : decode cc g.pc = .ok (.multianewarray index 2, 4)) {n k : Int32} {M : Nat} {rest : List Value} (hstack : g.stack = .int k :: .int n :: rest) (hn : ¬ n < 0) (hn2 : n.toNatClampNeg = 2) (hk : ¬ k < 0) (hM : k.toNatClampNeg = M) (hM2 : M ≤ 1000) (hf : fits ty (defaultValue ty) = true) (hcb : componentBytes ty ≤ 8)
    (hcells : cells + 3 ≤ R.cells) (hslots : slots + (2 + 2 * M) ≤ R.slots) {h0 : Nat} (hh : H.size = h0)
    (kk : ∀ (H' : Heap) (cA comp : ClassId), H'.size = h0 + 3 → H'[h0]? = some (arrV cA 2 (fun j => .ref (h0 + 1 + j))) → H'[h0 + 1]? = some (arrV comp M (fun _ => defaultValue ty)) → H'[h0 + 2]? = some (arrV comp M (fun _ => defaultValue ty)) → (∀ q, q < h0 → H'[q]? = H[q]?) → ArrOfT s cA (.array ty) → ArrOfT s comp ty →
      W p l e R s m args below meth c H' ((locs ++ [⟨h0, 0⟩]) ++ [⟨h0, 1⟩]) (cells + 3) (slots + (2 + 2 * M)) Q { g with pc := g.pc + 4, stack := .ref h0 :: rest }) : W p l e R s m args below meth c H locs cells slots Q g := by
  intro T hT X
  subst hT; subst hb; subst hg; subst hM; subst hh
  have hpl : e.platform.magicAccessors = ({} : Platform).magicAccessors := by rw [X.admits.platform]
  obtain ⟨comp, cA, kA, hcomp, hidx, hkA, hkindA, hnameA⟩ := arrayOverA_spec hover
  obtain ⟨comp', kC, cc', hcomp', hkC, hkindC⟩ := Cond.arrayClass_spec harr
  cases Option.some.inj (hcomp'.symm.trans hcomp)
  obtain ⟨c0, hfc0, hcl⟩ := Cond.classLink_spec hown hclink e.platform hpl
  cases hnameA.symm.trans hfc0
  obtain ⟨hg₁, hwarm₁, hready₁⟩ := State.classEntry (e := e) X.warmed hcl
  generalize T.vm.noted g.method.cls index (.cls cA) = vm₁ at hg₁ hwarm₁ hready₁
  have hal : s.vm.Alike vm₁ := hwarm₁.alike
  obtain ⟨kA₁, hkA₁, heA⟩ := hal.2.2 _ _ hkA
  obtain ⟨kC₁, hkC₁, heC⟩ := hal.2.2 _ _ hkC
  have hkindA₁ : kA₁.kind = .array comp (.array ty) := by rw [heA]; exact hkindA
  have hkindC₁ : kC₁.kind = .array cc' ty := by rw [heC]; exact hkindC
  obtain ⟨hr1, hr2⟩ := X.roomAbove hcells hslots
  have lim : ∀ z, z ≤ 1000 → ¬ z > e.platform.arrayLengthLimit := fun z hz => by rw [Launch.admits_arrayLengthLimit X.admits]; omega
  have hpB : ∀ z t, z ≤ 1000 → componentBytes t ≤ 8 → ¬ z * componentBytes t > e.platform.maxHeapBytes := fun z t hz ht => by
    have := Nat.mul_le_mul hz ht
    rw [Launch.admits_maxHeapBytes X.admits]; omega
  let o : Cell := { cls := cA, slots := Array.replicate 2 .null }
  let i : Cell := { cls := comp, slots := Array.replicate k.toNatClampNeg (defaultValue ty) }
  have X₁ := X.noted hwarm₁
  have XF : Stand p l e R s g.method args below meth c (mm2 (T.setVm vm₁) o i) ((locs ++ [⟨T.heap.size, 0⟩]) ++ [⟨T.heap.size, 1⟩]) (cells + 3) (slots + (2 + 2 * k.toNatClampNeg)) := by
    have a1 := ((X₁.pushed o).pushed i).stored (a := T.heap.size) (cell := o) mm_h1 0 (.ref (T.heap.size + 1))
    have a2 := (a1.pushed i).stored (a := T.heap.size) (cell := o.setSlot 0 (.ref (T.heap.size + 1))) mm_h2 1 (.ref (T.heap.size + 2))
    have e1 : o.slots.size = 2 := by simp [o]
    have e2 : i.slots.size = k.toNatClampNeg := by simp [i]
    rw [e1, e2] at a2
    rw [show cells + 3 = cells + 1 + 1 + 1 by omega, show slots + (2 + 2 * k.toNatClampNeg) = slots + 2 + k.toNatClampNeg + k.toNatClampNeg by omega]
    exact a2
  obtain ⟨q1, q2, q3, q4, q5⟩ := mm_heap (H := T.heap) (o := o) (i := i) (o1 := o.setSlot 0 (.ref (T.heap.size + 1))) (o2 := (o.setSlot 0 (.ref (T.heap.size + 1))).setSlot 1 (.ref (T.heap.size + 2)))
  have eo : (o.setSlot 0 (.ref (T.heap.size + 1))).setSlot 1 (.ref (T.heap.size + 2)) = arrV cA 2 (fun j => .ref (T.heap.size + 1 + j)) := by
    show ((({ cls := cA, slots := Array.replicate 2 .null, vm := .none } : Cell).setSlot 0 _).setSlot 1 _) = _
    rw [arrV_new, arrV_store, arrV_store]
    unfold arrV
    congr 1
  obtain ⟨t', a1, b1⟩ := kk _ cA comp q1 (q2.trans (congrArg some eo)) (q3.trans (congrArg some (arrV_new comp _ _))) (q4.trans (congrArg some (arrV_new comp _ _))) q5 (fun n z => ⟨fun k h => (by cases h), kA, hkA, comp, hkindA⟩) (fun n z => ⟨fun k h => (by cases h), kC, hkC, cc', hkindC⟩) (mm2 (T.setVm vm₁) o i) rfl XF
  refine ⟨t', ?_, b1⟩
  jvm_step X.here [hexec, hdg]
  simp only [multianewarray.sem, wp_bind', W.resolveClassAt_links (State.method?_setTop g X.here.top) hg₁]
  rw [W.popN, if_neg (by decide)]
  refine ⟨g, State.topJava?_setTop' (s := T.setVm vm₁) g X.here.top, [.int n, .int k], rest, rfl, hstack, ?_⟩
  simp only [List.mapM_cons, List.mapM_nil, wp_bind', wp_pure']
  have hT4 : componentBytes (.array ty) ≤ 8 := by show 4 ≤ 8; decide
  refine mm_wp2 (k := kA₁) (kc := kC₁) (comp := comp) (cc := cc') (t0 := .array ty) (type := ty) hkA₁ hkindA₁ rfl hkC₁ hkindC₁ hn hn2 hk (lim 2 (by decide)) (hpB 2 _ (by decide) hT4) (lim _ hM2) (hpB _ _ hM2 hcb) hf (by show T.heap.size + 3 ≤ _; omega) (by show T.slotsUsed + _ ≤ _; omega) (fun d' acts' => ?_)
  have eS : mm2 (((T.setTop g).setVm vm₁).setTop { g with stack := rest }) o i = (mm2 (T.setVm vm₁) o i).setTop { g with stack := rest } := by
    have e9 : ((T.setTop g).setVm vm₁).setTop { g with stack := rest } = (T.setVm vm₁).setTop { g with stack := rest } := by
      show ((T.setVm vm₁).setTop g).setTop _ = _
      rw [State.setTop_setTop]
    rw [e9]; rfl
  rw [eS]
  simp only [wp_bind', W.mark, W.pushRef, State.topJava?_setTop' _ XF.here.top, Option.some.injEq, exists_eq_left', State.setTop_setTop, State.heap_setTop]
  intro acts
  simp [jvm, XF.here.top]
  exact a1
end MULTI
section MISC
theorem sw_out {x a b : Int32} {lo hi : Int} (h1 : a.toInt = lo) (h2 : b.toInt = hi) (h : x < a ∨ b < x) : x.toInt < lo ∨ hi < x.toInt := by rw [← h1, ← h2]; exact h.imp Int32.lt_iff_toInt_lt.mp Int32.lt_iff_toInt_lt.mp
theorem sw_in_0_11 {x : Int32} (h : ¬ (x < 0 ∨ 11 < x)) : x = 0 ∨ x = 1 ∨ x = 2 ∨ x = 3 ∨ x = 4 ∨ x = 5 ∨ x = 6 ∨ x = 7 ∨ x = 8 ∨ x = 9 ∨ x = 10 ∨ x = 11 := by
  have e1 : ¬ x.toInt < 0 := fun q => h (Or.inl (Int32.lt_iff_toInt_lt.mpr q))
  have e2 : ¬ 11 < x.toInt := fun q => h (Or.inr (Int32.lt_iff_toInt_lt.mpr q))
  have e3 : x.toInt = 0 ∨ x.toInt = 1 ∨ x.toInt = 2 ∨ x.toInt = 3 ∨ x.toInt = 4 ∨ x.toInt = 5 ∨ x.toInt = 6 ∨ x.toInt = 7 ∨ x.toInt = 8 ∨ x.toInt = 9 ∨ x.toInt = 10 ∨ x.toInt = 11 := by omega
  rcases e3 with e | e | e | e | e | e | e | e | e | e | e | e
  · exact Or.inl (Int32.toInt_inj.mp e)
  · exact Or.inr (Or.inl (Int32.toInt_inj.mp e))
  · exact Or.inr (Or.inr (Or.inl (Int32.toInt_inj.mp e)))
  · exact Or.inr (Or.inr (Or.inr (Or.inl (Int32.toInt_inj.mp e))))
  · exact Or.inr (Or.inr (Or.inr (Or.inr (Or.inl (Int32.toInt_inj.mp e)))))
  · exact Or.inr (Or.inr (Or.inr (Or.inr (Or.inr (Or.inl (Int32.toInt_inj.mp e))))))
  · exact Or.inr (Or.inr (Or.inr (Or.inr (Or.inr (Or.inr (Or.inl (Int32.toInt_inj.mp e)))))))
  · exact Or.inr (Or.inr (Or.inr (Or.inr (Or.inr (Or.inr (Or.inr (Or.inl (Int32.toInt_inj.mp e))))))))
  · exact Or.inr (Or.inr (Or.inr (Or.inr (Or.inr (Or.inr (Or.inr (Or.inr (Or.inl (Int32.toInt_inj.mp e)))))))))
  · exact Or.inr (Or.inr (Or.inr (Or.inr (Or.inr (Or.inr (Or.inr (Or.inr (Or.inr (Or.inl (Int32.toInt_inj.mp e))))))))))
  · exact Or.inr (Or.inr (Or.inr (Or.inr (Or.inr (Or.inr (Or.inr (Or.inr (Or.inr (Or.inr (Or.inl (Int32.toInt_inj.mp e)))))))))))
  · exact Or.inr (Or.inr (Or.inr (Or.inr (Or.inr (Or.inr (Or.inr (Or.inr (Or.inr (Or.inr (Or.inr ((Int32.toInt_inj.mp e))))))))))))
theorem sw_in_3_8 {x : Int32} (h : ¬ (x < 3 ∨ 8 < x)) : x = 3 ∨ x = 4 ∨ x = 5 ∨ x = 6 ∨ x = 7 ∨ x = 8 := by
  have e1 : ¬ x.toInt < 3 := fun q => h (Or.inl (Int32.lt_iff_toInt_lt.mpr q))
  have e2 : ¬ 8 < x.toInt := fun q => h (Or.inr (Int32.lt_iff_toInt_lt.mpr q))
  have e3 : x.toInt = 3 ∨ x.toInt = 4 ∨ x.toInt = 5 ∨ x.toInt = 6 ∨ x.toInt = 7 ∨ x.toInt = 8 := by omega
  rcases e3 with e | e | e | e | e | e
  · exact Or.inl (Int32.toInt_inj.mp e)
  · exact Or.inr (Or.inl (Int32.toInt_inj.mp e))
  · exact Or.inr (Or.inr (Or.inl (Int32.toInt_inj.mp e)))
  · exact Or.inr (Or.inr (Or.inr (Or.inl (Int32.toInt_inj.mp e))))
  · exact Or.inr (Or.inr (Or.inr (Or.inr (Or.inl (Int32.toInt_inj.mp e)))))
  · exact Or.inr (Or.inr (Or.inr (Or.inr (Or.inr ((Int32.toInt_inj.mp e))))))
theorem sw_in_0_4 {x : Int32} (h : ¬ (x < 0 ∨ 4 < x)) : x = 0 ∨ x = 1 ∨ x = 2 ∨ x = 3 ∨ x = 4 := by
  have e1 : ¬ x.toInt < 0 := fun q => h (Or.inl (Int32.lt_iff_toInt_lt.mpr q))
  have e2 : ¬ 4 < x.toInt := fun q => h (Or.inr (Int32.lt_iff_toInt_lt.mpr q))
  have e3 : x.toInt = 0 ∨ x.toInt = 1 ∨ x.toInt = 2 ∨ x.toInt = 3 ∨ x.toInt = 4 := by omega
  rcases e3 with e | e | e | e | e
  · exact Or.inl (Int32.toInt_inj.mp e)
  · exact Or.inr (Or.inl (Int32.toInt_inj.mp e))
  · exact Or.inr (Or.inr (Or.inl (Int32.toInt_inj.mp e)))
  · exact Or.inr (Or.inr (Or.inr (Or.inl (Int32.toInt_inj.mp e))))
  · exact Or.inr (Or.inr (Or.inr (Or.inr ((Int32.toInt_inj.mp e)))))
theorem sw_in_0_10 {x : Int32} (h : ¬ (x < 0 ∨ 10 < x)) : x = 0 ∨ x = 1 ∨ x = 2 ∨ x = 3 ∨ x = 4 ∨ x = 5 ∨ x = 6 ∨ x = 7 ∨ x = 8 ∨ x = 9 ∨ x = 10 := by
  have e1 : ¬ x.toInt < 0 := fun q => h (Or.inl (Int32.lt_iff_toInt_lt.mpr q))
  have e2 : ¬ 10 < x.toInt := fun q => h (Or.inr (Int32.lt_iff_toInt_lt.mpr q))
  have e3 : x.toInt = 0 ∨ x.toInt = 1 ∨ x.toInt = 2 ∨ x.toInt = 3 ∨ x.toInt = 4 ∨ x.toInt = 5 ∨ x.toInt = 6 ∨ x.toInt = 7 ∨ x.toInt = 8 ∨ x.toInt = 9 ∨ x.toInt = 10 := by omega
  rcases e3 with e | e | e | e | e | e | e | e | e | e | e
  · exact Or.inl (Int32.toInt_inj.mp e)
  · exact Or.inr (Or.inl (Int32.toInt_inj.mp e))
  · exact Or.inr (Or.inr (Or.inl (Int32.toInt_inj.mp e)))
  · exact Or.inr (Or.inr (Or.inr (Or.inl (Int32.toInt_inj.mp e))))
  · exact Or.inr (Or.inr (Or.inr (Or.inr (Or.inl (Int32.toInt_inj.mp e)))))
  · exact Or.inr (Or.inr (Or.inr (Or.inr (Or.inr (Or.inl (Int32.toInt_inj.mp e))))))
  · exact Or.inr (Or.inr (Or.inr (Or.inr (Or.inr (Or.inr (Or.inl (Int32.toInt_inj.mp e)))))))
  · exact Or.inr (Or.inr (Or.inr (Or.inr (Or.inr (Or.inr (Or.inr (Or.inl (Int32.toInt_inj.mp e))))))))
  · exact Or.inr (Or.inr (Or.inr (Or.inr (Or.inr (Or.inr (Or.inr (Or.inr (Or.inl (Int32.toInt_inj.mp e)))))))))
  · exact Or.inr (Or.inr (Or.inr (Or.inr (Or.inr (Or.inr (Or.inr (Or.inr (Or.inr (Or.inl (Int32.toInt_inj.mp e))))))))))
  · exact Or.inr (Or.inr (Or.inr (Or.inr (Or.inr (Or.inr (Or.inr (Or.inr (Or.inr (Or.inr ((Int32.toInt_inj.mp e)))))))))))
theorem sw_in_0_3 {x : Int32} (h : ¬ (x < 0 ∨ 3 < x)) : x = 0 ∨ x = 1 ∨ x = 2 ∨ x = 3 := by
  have e1 : ¬ x.toInt < 0 := fun q => h (Or.inl (Int32.lt_iff_toInt_lt.mpr q))
  have e2 : ¬ 3 < x.toInt := fun q => h (Or.inr (Int32.lt_iff_toInt_lt.mpr q))
  have e3 : x.toInt = 0 ∨ x.toInt = 1 ∨ x.toInt = 2 ∨ x.toInt = 3 := by omega
  rcases e3 with e | e | e | e
  · exact Or.inl (Int32.toInt_inj.mp e)
  · exact Or.inr (Or.inl (Int32.toInt_inj.mp e))
  · exact Or.inr (Or.inr (Or.inl (Int32.toInt_inj.mp e)))
  · exact Or.inr (Or.inr (Or.inr ((Int32.toInt_inj.mp e))))
theorem sw_in_0_18 {x : Int32} (h : ¬ (x < 0 ∨ 18 < x)) : x = 0 ∨ x = 1 ∨ x = 2 ∨ x = 3 ∨ x = 4 ∨ x = 5 ∨ x = 6 ∨ x = 7 ∨ x = 8 ∨ x = 9 ∨ x = 10 ∨ x = 11 ∨ x = 12 ∨ x = 13 ∨ x = 14 ∨ x = 15 ∨ x = 16 ∨ x = 17 ∨ x = 18 := by
  have e1 : ¬ x.toInt < 0 := fun q => h (Or.inl (Int32.lt_iff_toInt_lt.mpr q))
  have e2 : ¬ 18 < x.toInt := fun q => h (Or.inr (Int32.lt_iff_toInt_lt.mpr q))
  have e3 : x.toInt = 0 ∨ x.toInt = 1 ∨ x.toInt = 2 ∨ x.toInt = 3 ∨ x.toInt = 4 ∨ x.toInt = 5 ∨ x.toInt = 6 ∨ x.toInt = 7 ∨ x.toInt = 8 ∨ x.toInt = 9 ∨ x.toInt = 10 ∨ x.toInt = 11 ∨ x.toInt = 12 ∨ x.toInt = 13 ∨ x.toInt = 14 ∨ x.toInt = 15 ∨ x.toInt = 16 ∨ x.toInt = 17 ∨ x.toInt = 18 := by omega
  rcases e3 with e | e | e | e | e | e | e | e | e | e | e | e | e | e | e | e | e | e | e
  · exact Or.inl (Int32.toInt_inj.mp e)
  · exact Or.inr (Or.inl (Int32.toInt_inj.mp e))
  · exact Or.inr (Or.inr (Or.inl (Int32.toInt_inj.mp e)))
  · exact Or.inr (Or.inr (Or.inr (Or.inl (Int32.toInt_inj.mp e))))
  · exact Or.inr (Or.inr (Or.inr (Or.inr (Or.inl (Int32.toInt_inj.mp e)))))
  · exact Or.inr (Or.inr (Or.inr (Or.inr (Or.inr (Or.inl (Int32.toInt_inj.mp e))))))
  · exact Or.inr (Or.inr (Or.inr (Or.inr (Or.inr (Or.inr (Or.inl (Int32.toInt_inj.mp e)))))))
  · exact Or.inr (Or.inr (Or.inr (Or.inr (Or.inr (Or.inr (Or.inr (Or.inl (Int32.toInt_inj.mp e))))))))
  · exact Or.inr (Or.inr (Or.inr (Or.inr (Or.inr (Or.inr (Or.inr (Or.inr (Or.inl (Int32.toInt_inj.mp e)))))))))
  · exact Or.inr (Or.inr (Or.inr (Or.inr (Or.inr (Or.inr (Or.inr (Or.inr (Or.inr (Or.inl (Int32.toInt_inj.mp e))))))))))
  · exact Or.inr (Or.inr (Or.inr (Or.inr (Or.inr (Or.inr (Or.inr (Or.inr (Or.inr (Or.inr (Or.inl (Int32.toInt_inj.mp e)))))))))))
  · exact Or.inr (Or.inr (Or.inr (Or.inr (Or.inr (Or.inr (Or.inr (Or.inr (Or.inr (Or.inr (Or.inr (Or.inl (Int32.toInt_inj.mp e))))))))))))
  · exact Or.inr (Or.inr (Or.inr (Or.inr (Or.inr (Or.inr (Or.inr (Or.inr (Or.inr (Or.inr (Or.inr (Or.inr (Or.inl (Int32.toInt_inj.mp e)))))))))))))
  · exact Or.inr (Or.inr (Or.inr (Or.inr (Or.inr (Or.inr (Or.inr (Or.inr (Or.inr (Or.inr (Or.inr (Or.inr (Or.inr (Or.inl (Int32.toInt_inj.mp e))))))))))))))
  · exact Or.inr (Or.inr (Or.inr (Or.inr (Or.inr (Or.inr (Or.inr (Or.inr (Or.inr (Or.inr (Or.inr (Or.inr (Or.inr (Or.inr (Or.inl (Int32.toInt_inj.mp e)))))))))))))))
  · exact Or.inr (Or.inr (Or.inr (Or.inr (Or.inr (Or.inr (Or.inr (Or.inr (Or.inr (Or.inr (Or.inr (Or.inr (Or.inr (Or.inr (Or.inr (Or.inl (Int32.toInt_inj.mp e))))))))))))))))
  · exact Or.inr (Or.inr (Or.inr (Or.inr (Or.inr (Or.inr (Or.inr (Or.inr (Or.inr (Or.inr (Or.inr (Or.inr (Or.inr (Or.inr (Or.inr (Or.inr (Or.inl (Int32.toInt_inj.mp e)))))))))))))))))
  · exact Or.inr (Or.inr (Or.inr (Or.inr (Or.inr (Or.inr (Or.inr (Or.inr (Or.inr (Or.inr (Or.inr (Or.inr (Or.inr (Or.inr (Or.inr (Or.inr (Or.inr (Or.inl (Int32.toInt_inj.mp e))))))))))))))))))
  · exact Or.inr (Or.inr (Or.inr (Or.inr (Or.inr (Or.inr (Or.inr (Or.inr (Or.inr (Or.inr (Or.inr (Or.inr (Or.inr (Or.inr (Or.inr (Or.inr (Or.inr (Or.inr ((Int32.toInt_inj.mp e)))))))))))))))))))
theorem nb_long {n : Nat} (h : n * 8 ≤ 536870912) : n * componentBytes .long ≤ 536870912 := h
theorem nb_int {n : Nat} (h : n * 8 ≤ 536870912) : n * componentBytes .int ≤ 536870912 := by show n * 4 ≤ _; omega
theorem nb_boolean {n : Nat} (h : n * 8 ≤ 536870912) : n * componentBytes .boolean ≤ 536870912 := by show n * 1 ≤ _; omega
/-- new T[n][k]: the outer array at the next address, the inner ones behind it -/
def nM (h : PH) (kd kd2 n k : Nat) : PH := (fun b => if b = hN h then kd else if hN h < b ∧ b ≤ hN h + n then kd2 else hK h b, fun b => if b = hN h then n else if hN h < b ∧ b ≤ hN h + n then k else hL h b,
  fun b j => if hN h ≤ b then 0 else hI h b j, fun b j => if hN h ≤ b then 0 else hJ h b j, fun b j => if b = hN h then (if j < n then hN h + 1 + j else 0) else if hN h < b then 0 else hR h b j, hN h + 1 + n, hS h + n + n * k)
variable {G : GG} {nc ns : Nat} {y : MI} {pc : Nat} {L : List (Option Value)} {S : List Value} {h : PH} {Z : Option Value → PH → Prop}
theorem arrV_same {cA : ClassId} {N : Nat} {f f' : Nat → Value} (h : ∀ j, j < N → f j = f' j) : arrV cA N f = arrV cA N f' := by
  unfold arrV
  congr 2
  funext j
  exact h j.val j.isLt
theorem r_multi {idx N K kd kd2 : Nat} {ty : FieldType} {n k : Int32} (hd : decode y.2.1 pc = .ok (.multianewarray idx 2, 4)) (hw : Cond.classLink y.1.cls idx ("[" ++ (FieldType.array ty).toString) ∈ lw_tbl) (hwa : Cond.arrayClass ty ∈ lw_tbl) (hty : ty = .int ∨ ty = .long) (hkd : ak kd = some (.array ty)) (hkd2 : ak kd2 = some ty) (hn : ¬ n < 0) (hNn : n.toNatClampNeg = N) (hN2 : N = 2) (hk : ¬ k < 0) (hKk : k.toNatClampNeg = K) (hK2 : K ≤ 1000) (h1 : hN h + (1 + N) ≤ nc) (h2 : hS h + (N + N * K) ≤ ns)
    (kk : RR G nc ns y (pc + 4) L (.ref (hN h) :: S) (nM h kd kd2 N K) Z) : RR G nc ns y pc L (.int k :: .int n :: S) h Z := by
  subst hN2
  intro p e R s m args below meth cd H locs cells slots c0 s0 ls Q M hp hm hl hr
  have hT := M.2.2.2.2.1
  have hcl : cells + 3 ≤ R.cells := by have := M.2.2.2.2.2.2.2.2.2.2.1; have := hm.2.2.1; omega
  have hsl : slots + (2 + 2 * K) ≤ R.slots := by have := M.2.2.2.2.2.2.2.2.2.2.2; have := hm.2.2.2.1; omega
  have hfd : fits ty (defaultValue ty) = true := by rcases hty with e | e <;> subst e <;> rfl
  have hcb : componentBytes ty ≤ 8 := by rcases hty with e | e <;> subst e <;> decide
  refine W.multi2 M.1 M.2.1 M.2.2.2.1 (hT.1 _ hw rfl args) (hT.2.2.1 ty args hty) (hT.1 _ hwa rfl args) rfl hd rfl hn hNn hk hKk hK2 hfd hcb hcl hsl hp.1 fun H' cA comp g1 g2 g3 g4 g5 g6 g7 => ?_
  have eK : ∀ b, hK (nM h kd kd2 2 K) b = if b = hN h then kd else if hN h < b ∧ b ≤ hN h + 2 then kd2 else hK h b := fun _ => rfl
  have eL : ∀ b, hL (nM h kd kd2 2 K) b = if b = hN h then 2 else if hN h < b ∧ b ≤ hN h + 2 then K else hL h b := fun _ => rfl
  have eI : ∀ b j, hI (nM h kd kd2 2 K) b j = if hN h ≤ b then 0 else hI h b j := fun _ _ => rfl
  have eJ : ∀ b j, hJ (nM h kd kd2 2 K) b j = if hN h ≤ b then 0 else hJ h b j := fun _ _ => rfl
  have eR : ∀ b j, hR (nM h kd kd2 2 K) b j = if b = hN h then (if j < 2 then hN h + 1 + j else 0) else if hN h < b then 0 else hR h b j := fun _ _ => rfl
  have akn : ∀ q t, ak q = some t → q ≠ 1 ∧ ∀ c, q ≠ 10 + c := by
    intro q t e
    refine ⟨fun z => (by subst z; cases e), fun c z => ?_⟩
    subst z
    rw [show 10 + c = c + 10 by omega] at e
    cases e
  have arr : ∀ b t cI f, hN h ≤ b → ak (hK (nM h kd kd2 2 K) b) = some t → H'[b]? = some (arrV cI (hL (nM h kd kd2 2 K) b) f) → (∀ j, j < hL (nM h kd kd2 2 K) b → f j = fv t (nM h kd kd2 2 K) b j) → ArrOfT s cI t → cR G.2.1 G.2.2 s (nM h kd kd2 2 K) H' b := by
    intro b t cI f hb ht hc hf ha
    obtain ⟨k1, k2⟩ := akn _ _ ht
    refine ⟨fun z => (k1 z).elim, fun ty' z => ?_, fun c q t' z1 _ _ => (k2 c z1).elim⟩
    cases ht.symm.trans z
    exact ⟨Nat.le_trans hp.2.2.2 hb, cI, hc.trans (congrArg some (arrV_same hf)), ha⟩
  have dv : ∀ b j, hN h < b → defaultValue ty = fv ty (nM h kd kd2 2 K) b j := by
    intro b j hb
    rcases hty with e | e
    · subst e
      show Value.int 0 = Value.int (hI (nM h kd kd2 2 K) b j)
      rw [eI, if_pos (by omega)]
    · subst e
      show Value.long 0 = Value.long (hJ (nM h kd kd2 2 K) b j)
      rw [eJ, if_pos (by omega)]
  refine kk p e R s m args below meth cd H' _ (cells + 3) (slots + (2 + 2 * K)) c0 s0 ls Q M ⟨g1, fun a ha => ?_, fun b => ?_, ?_⟩ ⟨h1, ?_, ?_, ?_, fun q hq => ?_⟩ hl hr
  · have ha : hN h + 1 + 2 ≤ a := ha
    rw [eK, if_neg (by omega), if_neg (by omega)]
    exact hp.2.1 a (by omega)
  · rcases (by omega : b < hN h ∨ b = hN h ∨ b = hN h + 1 ∨ b = hN h + 2 ∨ hN h + 3 ≤ b) with q | q | q | q | q
    · exact (hp.2.2.1 b).keep (by rw [eK, if_neg (by omega), if_neg (by omega)]) (by rw [eL, if_neg (by omega), if_neg (by omega)]) (fun j => by rw [eI, if_neg (by omega)]) (fun j => by rw [eJ, if_neg (by omega)]) (fun j => by rw [eR, if_neg (by omega), if_neg (by omega)]) (g5 b q)
    · subst q
      have l0 : hL (nM h kd kd2 2 K) (hN h) = 2 := by rw [eL, if_pos rfl]
      refine arr (hN h) (.array ty) cA _ (Nat.le_refl _) (by rw [eK, if_pos rfl]; exact hkd) (by rw [l0]; exact g2) (fun j hj => ?_) g6
      rw [l0] at hj
      show Value.ref (hN h + 1 + j) = rv (hR (nM h kd kd2 2 K) (hN h) j)
      rw [eR, if_pos rfl, if_pos hj, rv_ne (by omega)]
    · subst q
      have l0 : hL (nM h kd kd2 2 K) (hN h + 1) = K := by rw [eL, if_neg (by omega), if_pos (by omega)]
      exact arr (hN h + 1) ty comp _ (by omega) (by rw [eK, if_neg (by omega), if_pos (by omega)]; exact hkd2) (by rw [l0]; exact g3) (fun j hj => dv _ j (by omega)) g7
    · subst q
      have l0 : hL (nM h kd kd2 2 K) (hN h + 2) = K := by rw [eL, if_neg (by omega), if_pos (by omega)]
      exact arr (hN h + 2) ty comp _ (by omega) (by rw [eK, if_neg (by omega), if_pos (by omega)]; exact hkd2) (by rw [l0]; exact g4) (fun j hj => dv _ j (by omega)) g7
    · have z : hK (nM h kd kd2 2 K) b = 0 := by rw [eK, if_neg (by omega), if_neg (by omega)]; exact hp.2.1 b (by omega)
      exact ⟨fun w => (by rw [z] at w; cases w), fun t w => (by rw [z] at w; cases w), fun c q t w _ _ => (by rw [z] at w; omega)⟩
  · show G.2.2 ≤ hN h + 1 + 2
    have := hp.2.2.2
    omega
  · show hS h + 2 + 2 * K ≤ ns
    omega
  · show cells + 3 + c0 = hN h + 1 + 2
    have := hm.2.2.1; omega
  · show slots + (2 + 2 * K) + s0 = hS h + 2 + 2 * K
    have := hm.2.2.2.1; omega
  · have hb := hp.2.2.2
    rcases List.mem_append.mp hq with w | w
    · rcases List.mem_append.mp w with w | w
      · exact hm.2.2.2.2 q w
      · rw [List.mem_singleton.mp w]; exact hb
    · rw [List.mem_singleton.mp w]; exact hb
theorem r_multi_int {idx N K : Nat} {n k : Int32} (hd : decode y.2.1 pc = .ok (.multianewarray idx 2, 4)) (hw : Cond.classLink y.1.cls idx "[[I" ∈ lw_tbl) (hn : ¬ n < 0) (hNn : n.toNatClampNeg = N) (hN2 : N = 2) (hk : ¬ k < 0) (hKk : k.toNatClampNeg = K) (hK2 : K ≤ 1000) (h1 : hN h + (1 + N) ≤ nc) (h2 : hS h + (N + N * K) ≤ ns)
    (kk : RR G nc ns y (pc + 4) L (.ref (hN h) :: S) (nM h 5 2 N K) Z) : RR G nc ns y pc L (.int k :: .int n :: S) h Z := r_multi (ty := .int) hd hw ac_int (Or.inl rfl) rfl rfl hn hNn hN2 hk hKk hK2 h1 h2 kk
theorem r_multi_long {idx N K : Nat} {n k : Int32} (hd : decode y.2.1 pc = .ok (.multianewarray idx 2, 4)) (hw : Cond.classLink y.1.cls idx "[[J" ∈ lw_tbl) (hn : ¬ n < 0) (hNn : n.toNatClampNeg = N) (hN2 : N = 2) (hk : ¬ k < 0) (hKk : k.toNatClampNeg = K) (hK2 : K ≤ 1000) (h1 : hN h + (1 + N) ≤ nc) (h2 : hS h + (N + N * K) ≤ ns)
    (kk : RR G nc ns y (pc + 4) L (.ref (hN h) :: S) (nM h 6 3 N K) Z) : RR G nc ns y pc L (.int k :: .int n :: S) h Z := r_multi (ty := .long) hd hw ac_long (Or.inr rfl) rfl rfl hn hNn hN2 hk hKk hK2 h1 h2 kk
end MISC
