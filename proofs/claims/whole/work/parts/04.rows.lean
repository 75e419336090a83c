section ROWS
variable {G : GG} {nc ns : Nat} {y : MI} {pc : Nat} {L : List (Option Value)} {S : List Value} {h : PH} {Z : Option Value → PH → Prop}
def lvO : Nat → List (Option Value) → List (Nat × Value)
  | _, [] => []
  | i, some v :: t => (i, v) :: lvO (i + 1) t
  | i, none :: t => lvO (i + 1) t
theorem lvO_mem : ∀ (L : List (Option Value)) (i j : Nat) (v : Value), (j, v) ∈ lvO i L ↔ ∃ k, j = i + k ∧ L[k]? = some (some v)
  | [], i, j, v => by simp [lvO]
  | some w :: t, i, j, v => by
    rw [lvO, List.mem_cons, lvO_mem t]
    constructor
    · rintro (h | ⟨k, h1, h2⟩)
      · cases h; exact ⟨0, rfl, rfl⟩
      · exact ⟨k + 1, by omega, by simpa using h2⟩
    · rintro ⟨k, h1, h2⟩
      cases k with
      | zero => left; simp at h2; rw [h2, h1]; rfl
      | succ k => right; exact ⟨k, by omega, by simpa using h2⟩
  | none :: t, i, j, v => by
    rw [lvO, lvO_mem t]
    constructor
    · rintro ⟨k, h1, h2⟩
      exact ⟨k + 1, by omega, by simpa using h2⟩
    · rintro ⟨k, h1, h2⟩
      cases k with
      | zero => simp at h2
      | succ k => exact ⟨k, by omega, by simpa using h2⟩
theorem lL.has {ls : Array Slot} {n : Nat} {L : List (Option Value)} (h : lL ls n L) : lv_has ls n (lvO 0 L) := by
  refine ⟨h.1, h.2.1, fun q hq => ?_⟩
  obtain ⟨j, v⟩ := q
  obtain ⟨k, h1, h2⟩ := (lvO_mem L 0 j v).mp hq
  have e : j = k := by omega
  subst e
  exact h.2.2 j v h2
theorem kl_get {L : List (Option Value)} {i j : Nat} {w : Value} (h : (kl L i)[j]? = some (some w)) : L[j]? = some (some w) ∧ ¬ (j + 1 = i ∧ w.category = 2) := by
  cases i with
  | zero => exact ⟨h, fun q => by omega⟩
  | succ i =>
    cases hL : L[i]? with
    | none => simp only [kl, hL] at h; exact ⟨h, fun q => by rw [show i = j by omega, h] at hL; cases hL⟩
    | some x =>
      cases x with
      | none => simp only [kl, hL] at h; exact ⟨h, fun q => by rw [show i = j by omega, h] at hL; cases hL⟩
      | some v =>
        by_cases hc : v.category = 2
        · simp only [kl, hL, hc, if_true] at h
          rw [List.getElem?_set] at h
          by_cases e : i = j
          · subst e
            rw [if_pos rfl] at h
            split at h <;> cases h
          · rw [if_neg e] at h
            exact ⟨h, fun q => e (by omega)⟩
        · simp only [kl, hL, hc, if_false] at h
          refine ⟨h, fun q => ?_⟩
          have e : i = j := by omega
          subst e
          rw [hL] at h
          cases h
          exact hc q.2
theorem lL_st1 {ls : Array Slot} {n i : Nat} {v : Value} {L : List (Option Value)} (h : lv_has ls n ((i, v) :: (lvO 0 L).filter (fun q => !(q.1 == i) && !(q.1 + 1 == i && q.2.category == 2)))) : lL ls n (st1 L i v) := by
  refine ⟨h.1, h.2.1, fun j w hj => ?_⟩
  unfold st1 at hj
  rw [List.getElem?_set] at hj
  by_cases e : i = j
  · subst e
    rw [if_pos rfl] at hj
    split at hj
    · cases hj; exact h.2.2 _ List.mem_cons_self
    · cases hj
  · rw [if_neg e] at hj
    obtain ⟨h1, h2⟩ := kl_get hj
    refine h.2.2 (j, w) (List.mem_cons_of_mem _ (List.mem_filter.mpr ⟨(lvO_mem L 0 j w).mpr ⟨j, by omega, h1⟩, ?_⟩))
    simp only [Bool.and_eq_true, Bool.not_eq_true', beq_eq_false_iff_ne, ne_eq, Bool.and_eq_false_iff]
    refine ⟨fun q => e q.symm, ?_⟩
    by_cases q1 : j + 1 = i
    · exact Or.inr (fun q2 => h2 ⟨q1, q2⟩)
    · exact Or.inl q1
theorem lL_st2 {ls : Array Slot} {n i : Nat} {v : Value} {L : List (Option Value)} (h : lv_has ls n ((i, v) :: (lvO 0 L).filter (fun q => !(q.1 == i) && (!(q.1 == i + 1) && !(q.1 + 1 == i && q.2.category == 2))))) : lL ls n (st2 L i v) := by
  refine ⟨h.1, h.2.1, fun j w hj => ?_⟩
  unfold st2 at hj
  rw [List.getElem?_set] at hj
  by_cases e1 : i + 1 = j
  · subst e1
    rw [if_pos rfl] at hj
    split at hj <;> cases hj
  rw [if_neg e1, List.getElem?_set] at hj
  by_cases e : i = j
  · subst e
    rw [if_pos rfl] at hj
    split at hj
    · cases hj; exact h.2.2 _ List.mem_cons_self
    · cases hj
  · rw [if_neg e] at hj
    obtain ⟨h1, h2⟩ := kl_get hj
    refine h.2.2 (j, w) (List.mem_cons_of_mem _ (List.mem_filter.mpr ⟨(lvO_mem L 0 j w).mpr ⟨j, by omega, h1⟩, ?_⟩))
    simp only [Bool.and_eq_true, Bool.not_eq_true', beq_eq_false_iff_ne, ne_eq, Bool.and_eq_false_iff]
    refine ⟨fun q => e q.symm, fun q => e1 q.symm, ?_⟩
    by_cases q1 : j + 1 = i
    · exact Or.inr (fun q2 => h2 ⟨q1, q2⟩)
    · exact Or.inl q1
theorem r_iconst {n : Int} {v : Int32} (hd : decode y.2.1 pc = .ok (.iconst n, 1)) (hv : Int32.ofInt n = v) (k : RR G nc ns y (pc + 1) L (.int v :: S) h Z) : RR G nc ns y pc L (S) h Z := by
  intro p e R s m args below meth c H locs cells slots c0 s0 ls Q M hp hm hl hr
  exact lv_iconst M.1 M.2.1 hd hv (k p e R s m args below meth c H locs cells slots c0 s0 ls Q M hp hm hl hr)
theorem r_bipush {n : Int} {v : Int32} (hd : decode y.2.1 pc = .ok (.bipush n, 2)) (hv : (Int8.ofInt n).toInt32 = v) (k : RR G nc ns y (pc + 2) L (.int v :: S) h Z) : RR G nc ns y pc L (S) h Z := by
  intro p e R s m args below meth c H locs cells slots c0 s0 ls Q M hp hm hl hr
  exact lv_bipush M.1 M.2.1 hd hv (k p e R s m args below meth c H locs cells slots c0 s0 ls Q M hp hm hl hr)
theorem r_sipush {n : Int} {v : Int32} (hd : decode y.2.1 pc = .ok (.sipush n, 3)) (hv : (Int16.ofInt n).toInt32 = v) (k : RR G nc ns y (pc + 3) L (.int v :: S) h Z) : RR G nc ns y pc L (S) h Z := by
  intro p e R s m args below meth c H locs cells slots c0 s0 ls Q M hp hm hl hr
  exact lv_sipush M.1 M.2.1 hd hv (k p e R s m args below meth c H locs cells slots c0 s0 ls Q M hp hm hl hr)
theorem r_lconst {n : Fin 2} {v : Int64} (hd : decode y.2.1 pc = .ok (.lconst n, 1)) (hv : Int64.ofNat (n : Nat) = v) (k : RR G nc ns y (pc + 1) L (.long v :: S) h Z) : RR G nc ns y pc L (S) h Z := by
  intro p e R s m args below meth c H locs cells slots c0 s0 ls Q M hp hm hl hr
  exact lv_lconst M.1 M.2.1 hd hv (k p e R s m args below meth c H locs cells slots c0 s0 ls Q M hp hm hl hr)
theorem r_iload_n {k0 : Fin 4} {x : Int32} (hd : decode y.2.1 pc = .ok (.iload_n k0, 1)) (hx : L[(k0 : Nat)]? = some (some (.int x))) (k : RR G nc ns y (pc + 1) L (.int x :: S) h Z) : RR G nc ns y pc L (S) h Z := by
  intro p e R s m args below meth c H locs cells slots c0 s0 ls Q M hp hm hl hr
  exact lv_iload_n M.1 M.2.1 hd rfl (hl.2.2 _ _ hx) (k p e R s m args below meth c H locs cells slots c0 s0 ls Q M hp hm hl hr)
theorem r_iload {i : Nat} {x : Int32} (hd : decode y.2.1 pc = .ok (.iload i, 2)) (hx : L[i]? = some (some (.int x))) (k : RR G nc ns y (pc + 2) L (.int x :: S) h Z) : RR G nc ns y pc L (S) h Z := by
  intro p e R s m args below meth c H locs cells slots c0 s0 ls Q M hp hm hl hr
  exact lv_iload M.1 M.2.1 hd (hl.2.2 _ _ hx) (k p e R s m args below meth c H locs cells slots c0 s0 ls Q M hp hm hl hr)
theorem r_lload_n {k0 : Fin 4} {x : Int64} (hd : decode y.2.1 pc = .ok (.lload_n k0, 1)) (hx : L[(k0 : Nat)]? = some (some (.long x))) (k : RR G nc ns y (pc + 1) L (.long x :: S) h Z) : RR G nc ns y pc L (S) h Z := by
  intro p e R s m args below meth c H locs cells slots c0 s0 ls Q M hp hm hl hr
  exact lv_lload_n M.1 M.2.1 hd rfl (hl.2.2 _ _ hx) (k p e R s m args below meth c H locs cells slots c0 s0 ls Q M hp hm hl hr)
theorem r_lload {i : Nat} {x : Int64} (hd : decode y.2.1 pc = .ok (.lload i, 2)) (hx : L[i]? = some (some (.long x))) (k : RR G nc ns y (pc + 2) L (.long x :: S) h Z) : RR G nc ns y pc L (S) h Z := by
  intro p e R s m args below meth c H locs cells slots c0 s0 ls Q M hp hm hl hr
  exact lv_lload M.1 M.2.1 hd (hl.2.2 _ _ hx) (k p e R s m args below meth c H locs cells slots c0 s0 ls Q M hp hm hl hr)
theorem r_aload_n {k0 : Fin 4} {x : Nat} (hd : decode y.2.1 pc = .ok (.aload_n k0, 1)) (hx : L[(k0 : Nat)]? = some (some (.ref x))) (k : RR G nc ns y (pc + 1) L (.ref x :: S) h Z) : RR G nc ns y pc L (S) h Z := by
  intro p e R s m args below meth c H locs cells slots c0 s0 ls Q M hp hm hl hr
  exact lv_aload_n M.1 M.2.1 hd rfl (hl.2.2 _ _ hx) (k p e R s m args below meth c H locs cells slots c0 s0 ls Q M hp hm hl hr)
theorem r_aload {i : Nat} {x : Nat} (hd : decode y.2.1 pc = .ok (.aload i, 2)) (hx : L[i]? = some (some (.ref x))) (k : RR G nc ns y (pc + 2) L (.ref x :: S) h Z) : RR G nc ns y pc L (S) h Z := by
  intro p e R s m args below meth c H locs cells slots c0 s0 ls Q M hp hm hl hr
  exact lv_aload M.1 M.2.1 hd (hl.2.2 _ _ hx) (k p e R s m args below meth c H locs cells slots c0 s0 ls Q M hp hm hl hr)
theorem r_istore_n {k0 : Fin 4} {x : Int32} (hd : decode y.2.1 pc = .ok (.istore_n k0, 1)) (hn : (k0 : Nat) < y.2.2.1) (k : RR G nc ns y (pc + 1) (st1 L (k0 : Nat) (.int x)) S h Z) : RR G nc ns y pc L (.int x :: S) h Z := by
  intro p e R s m args below meth c H locs cells slots c0 s0 ls Q M hp hm hl hr
  exact lv_istore_n M.1 M.2.1 hd rfl hl.has hn rfl (fun ls' hl' => k p e R s m args below meth c H locs cells slots c0 s0 ls' Q M hp hm (lL_st1 hl') hr)
theorem r_istore {i : Nat} {x : Int32} (hd : decode y.2.1 pc = .ok (.istore i, 2)) (hn : i < y.2.2.1) (k : RR G nc ns y (pc + 2) (st1 L i (.int x)) S h Z) : RR G nc ns y pc L (.int x :: S) h Z := by
  intro p e R s m args below meth c H locs cells slots c0 s0 ls Q M hp hm hl hr
  exact lv_istore M.1 M.2.1 hd hl.has hn rfl (fun ls' hl' => k p e R s m args below meth c H locs cells slots c0 s0 ls' Q M hp hm (lL_st1 hl') hr)
theorem r_astore_n {k0 : Fin 4} {x : Nat} (hd : decode y.2.1 pc = .ok (.astore_n k0, 1)) (hn : (k0 : Nat) < y.2.2.1) (k : RR G nc ns y (pc + 1) (st1 L (k0 : Nat) (.ref x)) S h Z) : RR G nc ns y pc L (.ref x :: S) h Z := by
  intro p e R s m args below meth c H locs cells slots c0 s0 ls Q M hp hm hl hr
  exact lv_astore_n M.1 M.2.1 hd rfl hl.has hn rfl (fun ls' hl' => k p e R s m args below meth c H locs cells slots c0 s0 ls' Q M hp hm (lL_st1 hl') hr)
theorem r_astore {i : Nat} {x : Nat} (hd : decode y.2.1 pc = .ok (.astore i, 2)) (hn : i < y.2.2.1) (k : RR G nc ns y (pc + 2) (st1 L i (.ref x)) S h Z) : RR G nc ns y pc L (.ref x :: S) h Z := by
  intro p e R s m args below meth c H locs cells slots c0 s0 ls Q M hp hm hl hr
  exact lv_astore M.1 M.2.1 hd hl.has hn rfl (fun ls' hl' => k p e R s m args below meth c H locs cells slots c0 s0 ls' Q M hp hm (lL_st1 hl') hr)
theorem r_lstore_n {k0 : Fin 4} {x : Int64} (hd : decode y.2.1 pc = .ok (.lstore_n k0, 1)) (hn : (k0 : Nat) + 1 < y.2.2.1) (k : RR G nc ns y (pc + 1) (st2 L (k0 : Nat) (.long x)) S h Z) : RR G nc ns y pc L (.long x :: S) h Z := by
  intro p e R s m args below meth c H locs cells slots c0 s0 ls Q M hp hm hl hr
  exact lv_lstore_n M.1 M.2.1 hd rfl hl.has hn rfl (fun ls' hl' => k p e R s m args below meth c H locs cells slots c0 s0 ls' Q M hp hm (lL_st2 hl') hr)
theorem r_lstore {i : Nat} {x : Int64} (hd : decode y.2.1 pc = .ok (.lstore i, 2)) (hn : i + 1 < y.2.2.1) (k : RR G nc ns y (pc + 2) (st2 L i (.long x)) S h Z) : RR G nc ns y pc L (.long x :: S) h Z := by
  intro p e R s m args below meth c H locs cells slots c0 s0 ls Q M hp hm hl hr
  exact lv_lstore M.1 M.2.1 hd hl.has hn rfl (fun ls' hl' => k p e R s m args below meth c H locs cells slots c0 s0 ls' Q M hp hm (lL_st2 hl') hr)
theorem r_iinc {i : Nat} {n : Int} {x v : Int32} (hd : decode y.2.1 pc = .ok (.iinc i n, 3)) (hx : L[i]? = some (some (.int x))) (hn : i < y.2.2.1) (hv : x + Int32.ofInt n = v) (k : RR G nc ns y (pc + 3) (st1 L i (.int v)) S h Z) : RR G nc ns y pc L S h Z := by
  intro p e R s m args below meth c H locs cells slots c0 s0 ls Q M hp hm hl hr
  obtain ⟨k9, hk9⟩ := List.getElem?_of_mem ((lvO_mem L 0 i (.int x)).mpr ⟨i, by omega, hx⟩)
  exact lv_iinc M.1 M.2.1 hd hl.has hk9 hv hn rfl (fun ls' hl' => k p e R s m args below meth c H locs cells slots c0 s0 ls' Q M hp hm (lL_st1 hl') hr)
theorem r_iadd {x z : Int32} (hd : decode y.2.1 pc = .ok (.iadd, 1))  (k : RR G nc ns y (pc + 1) L (.int (x + z) :: S) h Z) : RR G nc ns y pc L (.int z :: .int x :: S) h Z := by
  intro p e R s m args below meth c H locs cells slots c0 s0 ls Q M hp hm hl hr
  exact lv_iadd M.1 M.2.1 hd (k p e R s m args below meth c H locs cells slots c0 s0 ls Q M hp hm hl hr)
theorem r_isub {x z : Int32} (hd : decode y.2.1 pc = .ok (.isub, 1))  (k : RR G nc ns y (pc + 1) L (.int (x - z) :: S) h Z) : RR G nc ns y pc L (.int z :: .int x :: S) h Z := by
  intro p e R s m args below meth c H locs cells slots c0 s0 ls Q M hp hm hl hr
  exact lv_isub M.1 M.2.1 hd (k p e R s m args below meth c H locs cells slots c0 s0 ls Q M hp hm hl hr)
theorem r_imul {x z : Int32} (hd : decode y.2.1 pc = .ok (.imul, 1))  (k : RR G nc ns y (pc + 1) L (.int (x * z) :: S) h Z) : RR G nc ns y pc L (.int z :: .int x :: S) h Z := by
  intro p e R s m args below meth c H locs cells slots c0 s0 ls Q M hp hm hl hr
  exact lv_imul M.1 M.2.1 hd (k p e R s m args below meth c H locs cells slots c0 s0 ls Q M hp hm hl hr)
theorem r_iand {x z : Int32} (hd : decode y.2.1 pc = .ok (.iand, 1))  (k : RR G nc ns y (pc + 1) L (.int (x &&& z) :: S) h Z) : RR G nc ns y pc L (.int z :: .int x :: S) h Z := by
  intro p e R s m args below meth c H locs cells slots c0 s0 ls Q M hp hm hl hr
  exact lv_iand M.1 M.2.1 hd (k p e R s m args below meth c H locs cells slots c0 s0 ls Q M hp hm hl hr)
theorem r_ior {x z : Int32} (hd : decode y.2.1 pc = .ok (.ior, 1))  (k : RR G nc ns y (pc + 1) L (.int (x ||| z) :: S) h Z) : RR G nc ns y pc L (.int z :: .int x :: S) h Z := by
  intro p e R s m args below meth c H locs cells slots c0 s0 ls Q M hp hm hl hr
  exact lv_ior M.1 M.2.1 hd (k p e R s m args below meth c H locs cells slots c0 s0 ls Q M hp hm hl hr)
theorem r_ixor {x z : Int32} (hd : decode y.2.1 pc = .ok (.ixor, 1))  (k : RR G nc ns y (pc + 1) L (.int (x ^^^ z) :: S) h Z) : RR G nc ns y pc L (.int z :: .int x :: S) h Z := by
  intro p e R s m args below meth c H locs cells slots c0 s0 ls Q M hp hm hl hr
  exact lv_ixor M.1 M.2.1 hd (k p e R s m args below meth c H locs cells slots c0 s0 ls Q M hp hm hl hr)
theorem r_ishl {x z : Int32} (hd : decode y.2.1 pc = .ok (.ishl, 1))  (k : RR G nc ns y (pc + 1) L (.int (x <<< (z &&& 31)) :: S) h Z) : RR G nc ns y pc L (.int z :: .int x :: S) h Z := by
  intro p e R s m args below meth c H locs cells slots c0 s0 ls Q M hp hm hl hr
  exact lv_ishl M.1 M.2.1 hd (k p e R s m args below meth c H locs cells slots c0 s0 ls Q M hp hm hl hr)
theorem r_ishr {x z : Int32} (hd : decode y.2.1 pc = .ok (.ishr, 1))  (k : RR G nc ns y (pc + 1) L (.int (x >>> (z &&& 31)) :: S) h Z) : RR G nc ns y pc L (.int z :: .int x :: S) h Z := by
  intro p e R s m args below meth c H locs cells slots c0 s0 ls Q M hp hm hl hr
  exact lv_ishr M.1 M.2.1 hd (k p e R s m args below meth c H locs cells slots c0 s0 ls Q M hp hm hl hr)
theorem r_iushr {x z : Int32} (hd : decode y.2.1 pc = .ok (.iushr, 1))  (k : RR G nc ns y (pc + 1) L (.int ((x.toUInt32 >>> (z.toUInt32 &&& Int32.toUInt32 31)).toInt32) :: S) h Z) : RR G nc ns y pc L (.int z :: .int x :: S) h Z := by
  intro p e R s m args below meth c H locs cells slots c0 s0 ls Q M hp hm hl hr
  exact lv_iushr M.1 M.2.1 hd rfl (k p e R s m args below meth c H locs cells slots c0 s0 ls Q M hp hm hl hr)
theorem r_ladd {x z : Int64} (hd : decode y.2.1 pc = .ok (.ladd, 1))  (k : RR G nc ns y (pc + 1) L (.long (x + z) :: S) h Z) : RR G nc ns y pc L (.long z :: .long x :: S) h Z := by
  intro p e R s m args below meth c H locs cells slots c0 s0 ls Q M hp hm hl hr
  exact lv_ladd M.1 M.2.1 hd (k p e R s m args below meth c H locs cells slots c0 s0 ls Q M hp hm hl hr)
theorem r_lsub {x z : Int64} (hd : decode y.2.1 pc = .ok (.lsub, 1))  (k : RR G nc ns y (pc + 1) L (.long (x - z) :: S) h Z) : RR G nc ns y pc L (.long z :: .long x :: S) h Z := by
  intro p e R s m args below meth c H locs cells slots c0 s0 ls Q M hp hm hl hr
  exact lv_lsub M.1 M.2.1 hd (k p e R s m args below meth c H locs cells slots c0 s0 ls Q M hp hm hl hr)
theorem r_lmul {x z : Int64} (hd : decode y.2.1 pc = .ok (.lmul, 1))  (k : RR G nc ns y (pc + 1) L (.long (x * z) :: S) h Z) : RR G nc ns y pc L (.long z :: .long x :: S) h Z := by
  intro p e R s m args below meth c H locs cells slots c0 s0 ls Q M hp hm hl hr
  exact lv_lmul M.1 M.2.1 hd (k p e R s m args below meth c H locs cells slots c0 s0 ls Q M hp hm hl hr)
theorem r_land {x z : Int64} (hd : decode y.2.1 pc = .ok (.land, 1))  (k : RR G nc ns y (pc + 1) L (.long (x &&& z) :: S) h Z) : RR G nc ns y pc L (.long z :: .long x :: S) h Z := by
  intro p e R s m args below meth c H locs cells slots c0 s0 ls Q M hp hm hl hr
  exact lv_land M.1 M.2.1 hd (k p e R s m args below meth c H locs cells slots c0 s0 ls Q M hp hm hl hr)
theorem r_lor {x z : Int64} (hd : decode y.2.1 pc = .ok (.lor, 1))  (k : RR G nc ns y (pc + 1) L (.long (x ||| z) :: S) h Z) : RR G nc ns y pc L (.long z :: .long x :: S) h Z := by
  intro p e R s m args below meth c H locs cells slots c0 s0 ls Q M hp hm hl hr
  exact lv_lor M.1 M.2.1 hd (k p e R s m args below meth c H locs cells slots c0 s0 ls Q M hp hm hl hr)
theorem r_lxor {x z : Int64} (hd : decode y.2.1 pc = .ok (.lxor, 1))  (k : RR G nc ns y (pc + 1) L (.long (x ^^^ z) :: S) h Z) : RR G nc ns y pc L (.long z :: .long x :: S) h Z := by
  intro p e R s m args below meth c H locs cells slots c0 s0 ls Q M hp hm hl hr
  exact lv_lxor M.1 M.2.1 hd (k p e R s m args below meth c H locs cells slots c0 s0 ls Q M hp hm hl hr)
theorem r_lneg {x : Int64} (hd : decode y.2.1 pc = .ok (.lneg, 1))  (k : RR G nc ns y (pc + 1) L (.long (-x) :: S) h Z) : RR G nc ns y pc L (.long x :: S) h Z := by
  intro p e R s m args below meth c H locs cells slots c0 s0 ls Q M hp hm hl hr
  exact lv_lneg M.1 M.2.1 hd (k p e R s m args below meth c H locs cells slots c0 s0 ls Q M hp hm hl hr)
theorem r_lshl {x : Int64} {z : Int32} (hd : decode y.2.1 pc = .ok (.lshl, 1))  (k : RR G nc ns y (pc + 1) L (.long (x <<< (z.toInt64 &&& 63)) :: S) h Z) : RR G nc ns y pc L (.int z :: .long x :: S) h Z := by
  intro p e R s m args below meth c H locs cells slots c0 s0 ls Q M hp hm hl hr
  exact lv_lshl M.1 M.2.1 hd rfl (k p e R s m args below meth c H locs cells slots c0 s0 ls Q M hp hm hl hr)
theorem r_lushr {x : Int64} {z : Int32} (hd : decode y.2.1 pc = .ok (.lushr, 1))  (k : RR G nc ns y (pc + 1) L (.long ((x.toUInt64 >>> (z.toInt64.toUInt64 &&& Int64.toUInt64 63)).toInt64) :: S) h Z) : RR G nc ns y pc L (.int z :: .long x :: S) h Z := by
  intro p e R s m args below meth c H locs cells slots c0 s0 ls Q M hp hm hl hr
  exact lv_lushr M.1 M.2.1 hd rfl (k p e R s m args below meth c H locs cells slots c0 s0 ls Q M hp hm hl hr)
theorem r_l2i {x : Int64} (hd : decode y.2.1 pc = .ok (.l2i, 1))  (k : RR G nc ns y (pc + 1) L (.int x.toInt32 :: S) h Z) : RR G nc ns y pc L (.long x :: S) h Z := by
  intro p e R s m args below meth c H locs cells slots c0 s0 ls Q M hp hm hl hr
  exact lv_l2i M.1 M.2.1 hd rfl (k p e R s m args below meth c H locs cells slots c0 s0 ls Q M hp hm hl hr)
theorem r_dup {a : Value} (hd : decode y.2.1 pc = .ok (.dup, 1)) (ha : a.category = 1) (k : RR G nc ns y (pc + 1) L (a :: a :: S) h Z) : RR G nc ns y pc L (a :: S) h Z := by
  intro p e R s m args below meth c H locs cells slots c0 s0 ls Q M hp hm hl hr
  exact lv_dup M.1 M.2.1 hd ha (k p e R s m args below meth c H locs cells slots c0 s0 ls Q M hp hm hl hr)
theorem r_dup2 {a b : Value} (hd : decode y.2.1 pc = .ok (.dup2, 1)) (ha : a.category = 1) (hb : b.category = 1) (k : RR G nc ns y (pc + 1) L (a :: b :: a :: b :: S) h Z) : RR G nc ns y pc L (a :: b :: S) h Z := by
  intro p e R s m args below meth c H locs cells slots c0 s0 ls Q M hp hm hl hr
  exact lv_dup2_11 M.1 M.2.1 hd ha hb (k p e R s m args below meth c H locs cells slots c0 s0 ls Q M hp hm hl hr)
theorem r_dup2L {a : Value} (hd : decode y.2.1 pc = .ok (.dup2, 1)) (ha : a.category = 2) (k : RR G nc ns y (pc + 1) L (a :: a :: S) h Z) : RR G nc ns y pc L (a :: S) h Z := by
  intro p e R s m args below meth c H locs cells slots c0 s0 ls Q M hp hm hl hr
  exact lv_dup2_2 M.1 M.2.1 hd ha (k p e R s m args below meth c H locs cells slots c0 s0 ls Q M hp hm hl hr)
theorem r_pop {a : Value} (hd : decode y.2.1 pc = .ok (.pop, 1)) (ha : a.category = 1) (k : RR G nc ns y (pc + 1) L (S) h Z) : RR G nc ns y pc L (a :: S) h Z := by
  intro p e R s m args below meth c H locs cells slots c0 s0 ls Q M hp hm hl hr
  exact lv_pop M.1 M.2.1 hd ha (k p e R s m args below meth c H locs cells slots c0 s0 ls Q M hp hm hl hr)
theorem r_lcmp {x z : Int64} (hd : decode y.2.1 pc = .ok (.lcmp, 1)) (k : RR G nc ns y (pc + 1) L (.int (lg_cmp x z) :: S) h Z) : RR G nc ns y pc L (.long z :: .long x :: S) h Z := by
  intro p e R s m args below meth c H locs cells slots c0 s0 ls Q M hp hm hl hr
  exact W.lcmp M.1 M.2.1 hd (k p e R s m args below meth c H locs cells slots c0 s0 ls Q M hp hm hl hr)
theorem r_goto {off : Int} {tgt : Nat} (hd : decode y.2.1 pc = .ok (.goto off, 3)) (ht : (pc : Int) + off = (tgt : Int)) (k : RR G nc ns y tgt L S h Z) : RR G nc ns y pc L S h Z := by
  intro p e R s m args below meth c H locs cells slots c0 s0 ls Q M hp hm hl hr
  exact lv_goto M.1 M.2.1 hd ht (k p e R s m args below meth c H locs cells slots c0 s0 ls Q M hp hm hl hr)
theorem r_if_eq_t {x : Int32} {off : Int} {tgt : Nat} (hd : decode y.2.1 pc = .ok (.ifCond .eq off, 3)) (ht : (pc : Int) + off = (tgt : Int)) (hc : x = 0) (k : RR G nc ns y tgt L S h Z) : RR G nc ns y pc L (.int x :: S) h Z := by
  intro p e R s m args below meth c H locs cells slots c0 s0 ls Q M hp hm hl hr
  exact lv_if_eq M.1 M.2.1 hd ht (fun c9 => (k p e R s m args below meth c H locs cells slots c0 s0 ls Q M hp hm hl hr)) (fun c9 => absurd hc c9)
theorem r_if_eq_f {x : Int32} {off : Int} {tgt : Nat} (hd : decode y.2.1 pc = .ok (.ifCond .eq off, 3)) (ht : (pc : Int) + off = (tgt : Int)) (hc : ¬ x = 0) (k : RR G nc ns y (pc + 3) L S h Z) : RR G nc ns y pc L (.int x :: S) h Z := by
  intro p e R s m args below meth c H locs cells slots c0 s0 ls Q M hp hm hl hr
  exact lv_if_eq M.1 M.2.1 hd ht (fun c9 => absurd c9 hc) (fun c9 => (k p e R s m args below meth c H locs cells slots c0 s0 ls Q M hp hm hl hr))
theorem r_if_ne_t {x : Int32} {off : Int} {tgt : Nat} (hd : decode y.2.1 pc = .ok (.ifCond .ne off, 3)) (ht : (pc : Int) + off = (tgt : Int)) (hc : ¬ x = 0) (k : RR G nc ns y tgt L S h Z) : RR G nc ns y pc L (.int x :: S) h Z := by
  intro p e R s m args below meth c H locs cells slots c0 s0 ls Q M hp hm hl hr
  exact lv_if_ne M.1 M.2.1 hd ht (fun c9 => (k p e R s m args below meth c H locs cells slots c0 s0 ls Q M hp hm hl hr)) (fun c9 => absurd c9 hc)
theorem r_if_ne_f {x : Int32} {off : Int} {tgt : Nat} (hd : decode y.2.1 pc = .ok (.ifCond .ne off, 3)) (ht : (pc : Int) + off = (tgt : Int)) (hc : x = 0) (k : RR G nc ns y (pc + 3) L S h Z) : RR G nc ns y pc L (.int x :: S) h Z := by
  intro p e R s m args below meth c H locs cells slots c0 s0 ls Q M hp hm hl hr
  exact lv_if_ne M.1 M.2.1 hd ht (fun c9 => absurd hc c9) (fun c9 => (k p e R s m args below meth c H locs cells slots c0 s0 ls Q M hp hm hl hr))
theorem r_if_lt_t {x : Int32} {off : Int} {tgt : Nat} (hd : decode y.2.1 pc = .ok (.ifCond .lt off, 3)) (ht : (pc : Int) + off = (tgt : Int)) (hc : x < 0) (k : RR G nc ns y tgt L S h Z) : RR G nc ns y pc L (.int x :: S) h Z := by
  intro p e R s m args below meth c H locs cells slots c0 s0 ls Q M hp hm hl hr
  exact lv_if_lt M.1 M.2.1 hd ht (fun c9 => (k p e R s m args below meth c H locs cells slots c0 s0 ls Q M hp hm hl hr)) (fun c9 => absurd hc c9)
theorem r_if_lt_f {x : Int32} {off : Int} {tgt : Nat} (hd : decode y.2.1 pc = .ok (.ifCond .lt off, 3)) (ht : (pc : Int) + off = (tgt : Int)) (hc : ¬ x < 0) (k : RR G nc ns y (pc + 3) L S h Z) : RR G nc ns y pc L (.int x :: S) h Z := by
  intro p e R s m args below meth c H locs cells slots c0 s0 ls Q M hp hm hl hr
  exact lv_if_lt M.1 M.2.1 hd ht (fun c9 => absurd c9 hc) (fun c9 => (k p e R s m args below meth c H locs cells slots c0 s0 ls Q M hp hm hl hr))
theorem r_if_ge_t {x : Int32} {off : Int} {tgt : Nat} (hd : decode y.2.1 pc = .ok (.ifCond .ge off, 3)) (ht : (pc : Int) + off = (tgt : Int)) (hc : 0 ≤ x) (k : RR G nc ns y tgt L S h Z) : RR G nc ns y pc L (.int x :: S) h Z := by
  intro p e R s m args below meth c H locs cells slots c0 s0 ls Q M hp hm hl hr
  exact lv_if_ge M.1 M.2.1 hd ht (fun c9 => (k p e R s m args below meth c H locs cells slots c0 s0 ls Q M hp hm hl hr)) (fun c9 => absurd hc c9)
theorem r_if_ge_f {x : Int32} {off : Int} {tgt : Nat} (hd : decode y.2.1 pc = .ok (.ifCond .ge off, 3)) (ht : (pc : Int) + off = (tgt : Int)) (hc : ¬ 0 ≤ x) (k : RR G nc ns y (pc + 3) L S h Z) : RR G nc ns y pc L (.int x :: S) h Z := by
  intro p e R s m args below meth c H locs cells slots c0 s0 ls Q M hp hm hl hr
  exact lv_if_ge M.1 M.2.1 hd ht (fun c9 => absurd c9 hc) (fun c9 => (k p e R s m args below meth c H locs cells slots c0 s0 ls Q M hp hm hl hr))
theorem r_if_gt_t {x : Int32} {off : Int} {tgt : Nat} (hd : decode y.2.1 pc = .ok (.ifCond .gt off, 3)) (ht : (pc : Int) + off = (tgt : Int)) (hc : 0 < x) (k : RR G nc ns y tgt L S h Z) : RR G nc ns y pc L (.int x :: S) h Z := by
  intro p e R s m args below meth c H locs cells slots c0 s0 ls Q M hp hm hl hr
  exact lv_if_gt M.1 M.2.1 hd ht (fun c9 => (k p e R s m args below meth c H locs cells slots c0 s0 ls Q M hp hm hl hr)) (fun c9 => absurd hc c9)
theorem r_if_gt_f {x : Int32} {off : Int} {tgt : Nat} (hd : decode y.2.1 pc = .ok (.ifCond .gt off, 3)) (ht : (pc : Int) + off = (tgt : Int)) (hc : ¬ 0 < x) (k : RR G nc ns y (pc + 3) L S h Z) : RR G nc ns y pc L (.int x :: S) h Z := by
  intro p e R s m args below meth c H locs cells slots c0 s0 ls Q M hp hm hl hr
  exact lv_if_gt M.1 M.2.1 hd ht (fun c9 => absurd c9 hc) (fun c9 => (k p e R s m args below meth c H locs cells slots c0 s0 ls Q M hp hm hl hr))
theorem r_if_le_t {x : Int32} {off : Int} {tgt : Nat} (hd : decode y.2.1 pc = .ok (.ifCond .le off, 3)) (ht : (pc : Int) + off = (tgt : Int)) (hc : x ≤ 0) (k : RR G nc ns y tgt L S h Z) : RR G nc ns y pc L (.int x :: S) h Z := by
  intro p e R s m args below meth c H locs cells slots c0 s0 ls Q M hp hm hl hr
  exact lv_if_le M.1 M.2.1 hd ht (fun c9 => (k p e R s m args below meth c H locs cells slots c0 s0 ls Q M hp hm hl hr)) (fun c9 => absurd hc c9)
theorem r_if_le_f {x : Int32} {off : Int} {tgt : Nat} (hd : decode y.2.1 pc = .ok (.ifCond .le off, 3)) (ht : (pc : Int) + off = (tgt : Int)) (hc : ¬ x ≤ 0) (k : RR G nc ns y (pc + 3) L S h Z) : RR G nc ns y pc L (.int x :: S) h Z := by
  intro p e R s m args below meth c H locs cells slots c0 s0 ls Q M hp hm hl hr
  exact lv_if_le M.1 M.2.1 hd ht (fun c9 => absurd c9 hc) (fun c9 => (k p e R s m args below meth c H locs cells slots c0 s0 ls Q M hp hm hl hr))
theorem r_icmp_eq_t {x z : Int32} {off : Int} {tgt : Nat} (hd : decode y.2.1 pc = .ok (.if_icmp .eq off, 3)) (ht : (pc : Int) + off = (tgt : Int)) (hc : x = z) (k : RR G nc ns y tgt L S h Z) : RR G nc ns y pc L (.int z :: .int x :: S) h Z := by
  intro p e R s m args below meth c H locs cells slots c0 s0 ls Q M hp hm hl hr
  exact lv_icmp_eq M.1 M.2.1 hd ht (fun c9 => (k p e R s m args below meth c H locs cells slots c0 s0 ls Q M hp hm hl hr)) (fun c9 => absurd hc c9)
theorem r_icmp_eq_f {x z : Int32} {off : Int} {tgt : Nat} (hd : decode y.2.1 pc = .ok (.if_icmp .eq off, 3)) (ht : (pc : Int) + off = (tgt : Int)) (hc : ¬ x = z) (k : RR G nc ns y (pc + 3) L S h Z) : RR G nc ns y pc L (.int z :: .int x :: S) h Z := by
  intro p e R s m args below meth c H locs cells slots c0 s0 ls Q M hp hm hl hr
  exact lv_icmp_eq M.1 M.2.1 hd ht (fun c9 => absurd c9 hc) (fun c9 => (k p e R s m args below meth c H locs cells slots c0 s0 ls Q M hp hm hl hr))
theorem r_icmp_ne_t {x z : Int32} {off : Int} {tgt : Nat} (hd : decode y.2.1 pc = .ok (.if_icmp .ne off, 3)) (ht : (pc : Int) + off = (tgt : Int)) (hc : ¬ x = z) (k : RR G nc ns y tgt L S h Z) : RR G nc ns y pc L (.int z :: .int x :: S) h Z := by
  intro p e R s m args below meth c H locs cells slots c0 s0 ls Q M hp hm hl hr
  exact lv_icmp_ne M.1 M.2.1 hd ht (fun c9 => (k p e R s m args below meth c H locs cells slots c0 s0 ls Q M hp hm hl hr)) (fun c9 => absurd c9 hc)
theorem r_icmp_ne_f {x z : Int32} {off : Int} {tgt : Nat} (hd : decode y.2.1 pc = .ok (.if_icmp .ne off, 3)) (ht : (pc : Int) + off = (tgt : Int)) (hc : x = z) (k : RR G nc ns y (pc + 3) L S h Z) : RR G nc ns y pc L (.int z :: .int x :: S) h Z := by
  intro p e R s m args below meth c H locs cells slots c0 s0 ls Q M hp hm hl hr
  exact lv_icmp_ne M.1 M.2.1 hd ht (fun c9 => absurd hc c9) (fun c9 => (k p e R s m args below meth c H locs cells slots c0 s0 ls Q M hp hm hl hr))
theorem r_icmp_lt_t {x z : Int32} {off : Int} {tgt : Nat} (hd : decode y.2.1 pc = .ok (.if_icmp .lt off, 3)) (ht : (pc : Int) + off = (tgt : Int)) (hc : x < z) (k : RR G nc ns y tgt L S h Z) : RR G nc ns y pc L (.int z :: .int x :: S) h Z := by
  intro p e R s m args below meth c H locs cells slots c0 s0 ls Q M hp hm hl hr
  exact lv_icmp_lt M.1 M.2.1 hd ht (fun c9 => (k p e R s m args below meth c H locs cells slots c0 s0 ls Q M hp hm hl hr)) (fun c9 => absurd hc c9)
theorem r_icmp_lt_f {x z : Int32} {off : Int} {tgt : Nat} (hd : decode y.2.1 pc = .ok (.if_icmp .lt off, 3)) (ht : (pc : Int) + off = (tgt : Int)) (hc : ¬ x < z) (k : RR G nc ns y (pc + 3) L S h Z) : RR G nc ns y pc L (.int z :: .int x :: S) h Z := by
  intro p e R s m args below meth c H locs cells slots c0 s0 ls Q M hp hm hl hr
  exact lv_icmp_lt M.1 M.2.1 hd ht (fun c9 => absurd c9 hc) (fun c9 => (k p e R s m args below meth c H locs cells slots c0 s0 ls Q M hp hm hl hr))
theorem r_icmp_ge_t {x z : Int32} {off : Int} {tgt : Nat} (hd : decode y.2.1 pc = .ok (.if_icmp .ge off, 3)) (ht : (pc : Int) + off = (tgt : Int)) (hc : z ≤ x) (k : RR G nc ns y tgt L S h Z) : RR G nc ns y pc L (.int z :: .int x :: S) h Z := by
  intro p e R s m args below meth c H locs cells slots c0 s0 ls Q M hp hm hl hr
  exact lv_icmp_ge M.1 M.2.1 hd ht (fun c9 => (k p e R s m args below meth c H locs cells slots c0 s0 ls Q M hp hm hl hr)) (fun c9 => absurd hc c9)
theorem r_icmp_ge_f {x z : Int32} {off : Int} {tgt : Nat} (hd : decode y.2.1 pc = .ok (.if_icmp .ge off, 3)) (ht : (pc : Int) + off = (tgt : Int)) (hc : ¬ z ≤ x) (k : RR G nc ns y (pc + 3) L S h Z) : RR G nc ns y pc L (.int z :: .int x :: S) h Z := by
  intro p e R s m args below meth c H locs cells slots c0 s0 ls Q M hp hm hl hr
  exact lv_icmp_ge M.1 M.2.1 hd ht (fun c9 => absurd c9 hc) (fun c9 => (k p e R s m args below meth c H locs cells slots c0 s0 ls Q M hp hm hl hr))
theorem r_icmp_gt_t {x z : Int32} {off : Int} {tgt : Nat} (hd : decode y.2.1 pc = .ok (.if_icmp .gt off, 3)) (ht : (pc : Int) + off = (tgt : Int)) (hc : z < x) (k : RR G nc ns y tgt L S h Z) : RR G nc ns y pc L (.int z :: .int x :: S) h Z := by
  intro p e R s m args below meth c H locs cells slots c0 s0 ls Q M hp hm hl hr
  exact lv_icmp_gt M.1 M.2.1 hd ht (fun c9 => (k p e R s m args below meth c H locs cells slots c0 s0 ls Q M hp hm hl hr)) (fun c9 => absurd hc c9)
theorem r_icmp_gt_f {x z : Int32} {off : Int} {tgt : Nat} (hd : decode y.2.1 pc = .ok (.if_icmp .gt off, 3)) (ht : (pc : Int) + off = (tgt : Int)) (hc : ¬ z < x) (k : RR G nc ns y (pc + 3) L S h Z) : RR G nc ns y pc L (.int z :: .int x :: S) h Z := by
  intro p e R s m args below meth c H locs cells slots c0 s0 ls Q M hp hm hl hr
  exact lv_icmp_gt M.1 M.2.1 hd ht (fun c9 => absurd c9 hc) (fun c9 => (k p e R s m args below meth c H locs cells slots c0 s0 ls Q M hp hm hl hr))
theorem r_icmp_le_t {x z : Int32} {off : Int} {tgt : Nat} (hd : decode y.2.1 pc = .ok (.if_icmp .le off, 3)) (ht : (pc : Int) + off = (tgt : Int)) (hc : x ≤ z) (k : RR G nc ns y tgt L S h Z) : RR G nc ns y pc L (.int z :: .int x :: S) h Z := by
  intro p e R s m args below meth c H locs cells slots c0 s0 ls Q M hp hm hl hr
  exact lv_icmp_le M.1 M.2.1 hd ht (fun c9 => (k p e R s m args below meth c H locs cells slots c0 s0 ls Q M hp hm hl hr)) (fun c9 => absurd hc c9)
theorem r_icmp_le_f {x z : Int32} {off : Int} {tgt : Nat} (hd : decode y.2.1 pc = .ok (.if_icmp .le off, 3)) (ht : (pc : Int) + off = (tgt : Int)) (hc : ¬ x ≤ z) (k : RR G nc ns y (pc + 3) L S h Z) : RR G nc ns y pc L (.int z :: .int x :: S) h Z := by
  intro p e R s m args below meth c H locs cells slots c0 s0 ls Q M hp hm hl hr
  exact lv_icmp_le M.1 M.2.1 hd ht (fun c9 => absurd c9 hc) (fun c9 => (k p e R s m args below meth c H locs cells slots c0 s0 ls Q M hp hm hl hr))
theorem r_tableIn {dflt lo hi off : Int} {offs : Array Int} {len tgt : Nat} {x : Int32} (hd : decode y.2.1 pc = .ok (.tableswitch dflt lo hi offs, len)) (h1 : ¬ x.toInt < lo) (h2 : ¬ hi < x.toInt) (ho : offs[(x.toInt - lo).toNat]? = some off) (ht : (pc : Int) + off = (tgt : Int)) (k : RR G nc ns y tgt L S h Z) : RR G nc ns y pc L (.int x :: S) h Z := by
  intro p e R s m args below meth c H locs cells slots c0 s0 ls Q M hp hm hl hr
  exact lv_tableIn M.1 M.2.1 hd h1 h2 ho ht (k p e R s m args below meth c H locs cells slots c0 s0 ls Q M hp hm hl hr)
theorem r_tableOut {dflt lo hi : Int} {offs : Array Int} {len tgt : Nat} {x : Int32} (hd : decode y.2.1 pc = .ok (.tableswitch dflt lo hi offs, len)) (h1 : x.toInt < lo ∨ hi < x.toInt) (ht : (pc : Int) + dflt = (tgt : Int)) (k : RR G nc ns y tgt L S h Z) : RR G nc ns y pc L (.int x :: S) h Z := by
  intro p e R s m args below meth c H locs cells slots c0 s0 ls Q M hp hm hl hr
  exact lv_tableOut M.1 M.2.1 hd h1 ht (k p e R s m args below meth c H locs cells slots c0 s0 ls Q M hp hm hl hr)
theorem r_ldc {idx : Nat} {v : Int32} (hd : decode y.2.1 pc = .ok (.ldc idx, 2)) (hw : Jvm.Cond.constant y.1.cls idx v ∈ lw_tbl) (k : RR G nc ns y (pc + 2) L (.int v :: S) h Z) : RR G nc ns y pc L S h Z := by
  intro p e R s m args below meth c H locs cells slots c0 s0 ls Q M hp hm hl hr
  exact lv_ldc M.1 M.2.1 M.2.2.2.1 (M.2.2.2.2.1.1 _ hw rfl _) hd (k p e R s m args below meth c H locs cells slots c0 s0 ls Q M hp hm hl hr)
theorem r_ldcw {idx : Nat} {v : Int32} (hd : decode y.2.1 pc = .ok (.ldc_w idx, 3)) (hw : Jvm.Cond.constant y.1.cls idx v ∈ lw_tbl) (k : RR G nc ns y (pc + 3) L (.int v :: S) h Z) : RR G nc ns y pc L S h Z := by
  intro p e R s m args below meth c H locs cells slots c0 s0 ls Q M hp hm hl hr
  exact lv_ldcw M.1 M.2.1 M.2.2.2.1 (M.2.2.2.2.1.1 _ hw rfl _) hd (k p e R s m args below meth c H locs cells slots c0 s0 ls Q M hp hm hl hr)
theorem r_ldc2 {idx : Nat} {v : Int64} (hd : decode y.2.1 pc = .ok (.ldc2_w idx, 3)) (hw : Jvm.Cond.constantLong y.1.cls idx v ∈ lw_tbl) (k : RR G nc ns y (pc + 3) L (.long v :: S) h Z) : RR G nc ns y pc L S h Z := by
  intro p e R s m args below meth c H locs cells slots c0 s0 ls Q M hp hm hl hr
  exact lv_ldc2 M.1 M.2.1 M.2.2.2.1 (M.2.2.2.2.1.1 _ hw rfl _) hd (k p e R s m args below meth c H locs cells slots c0 s0 ls Q M hp hm hl hr)
theorem r_if_eq {x : Int32} {off : Int} (tgt : Nat) (hd : decode y.2.1 pc = .ok (.ifCond .eq off, 3)) (ht : (pc : Int) + off = (tgt : Int)) (kt : x = 0 → RR G nc ns y tgt L S h Z) (kf : ¬ x = 0 → RR G nc ns y (pc + 3) L S h Z) : RR G nc ns y pc L (.int x :: S) h Z := by
  intro p e R s m args below meth c H locs cells slots c0 s0 ls Q M hp hm hl hr
  exact lv_if_eq M.1 M.2.1 hd ht (fun c9 => kt c9 p e R s m args below meth c H locs cells slots c0 s0 ls Q M hp hm hl hr) (fun c9 => kf c9 p e R s m args below meth c H locs cells slots c0 s0 ls Q M hp hm hl hr)
theorem r_if_ne {x : Int32} {off : Int} (tgt : Nat) (hd : decode y.2.1 pc = .ok (.ifCond .ne off, 3)) (ht : (pc : Int) + off = (tgt : Int)) (kt : ¬ x = 0 → RR G nc ns y tgt L S h Z) (kf : x = 0 → RR G nc ns y (pc + 3) L S h Z) : RR G nc ns y pc L (.int x :: S) h Z := by
  intro p e R s m args below meth c H locs cells slots c0 s0 ls Q M hp hm hl hr
  exact lv_if_ne M.1 M.2.1 hd ht (fun c9 => kt c9 p e R s m args below meth c H locs cells slots c0 s0 ls Q M hp hm hl hr) (fun c9 => kf c9 p e R s m args below meth c H locs cells slots c0 s0 ls Q M hp hm hl hr)
theorem r_if_lt {x : Int32} {off : Int} (tgt : Nat) (hd : decode y.2.1 pc = .ok (.ifCond .lt off, 3)) (ht : (pc : Int) + off = (tgt : Int)) (kt : x < 0 → RR G nc ns y tgt L S h Z) (kf : ¬ x < 0 → RR G nc ns y (pc + 3) L S h Z) : RR G nc ns y pc L (.int x :: S) h Z := by
  intro p e R s m args below meth c H locs cells slots c0 s0 ls Q M hp hm hl hr
  exact lv_if_lt M.1 M.2.1 hd ht (fun c9 => kt c9 p e R s m args below meth c H locs cells slots c0 s0 ls Q M hp hm hl hr) (fun c9 => kf c9 p e R s m args below meth c H locs cells slots c0 s0 ls Q M hp hm hl hr)
theorem r_if_ge {x : Int32} {off : Int} (tgt : Nat) (hd : decode y.2.1 pc = .ok (.ifCond .ge off, 3)) (ht : (pc : Int) + off = (tgt : Int)) (kt : 0 ≤ x → RR G nc ns y tgt L S h Z) (kf : ¬ 0 ≤ x → RR G nc ns y (pc + 3) L S h Z) : RR G nc ns y pc L (.int x :: S) h Z := by
  intro p e R s m args below meth c H locs cells slots c0 s0 ls Q M hp hm hl hr
  exact lv_if_ge M.1 M.2.1 hd ht (fun c9 => kt c9 p e R s m args below meth c H locs cells slots c0 s0 ls Q M hp hm hl hr) (fun c9 => kf c9 p e R s m args below meth c H locs cells slots c0 s0 ls Q M hp hm hl hr)
theorem r_if_gt {x : Int32} {off : Int} (tgt : Nat) (hd : decode y.2.1 pc = .ok (.ifCond .gt off, 3)) (ht : (pc : Int) + off = (tgt : Int)) (kt : 0 < x → RR G nc ns y tgt L S h Z) (kf : ¬ 0 < x → RR G nc ns y (pc + 3) L S h Z) : RR G nc ns y pc L (.int x :: S) h Z := by
  intro p e R s m args below meth c H locs cells slots c0 s0 ls Q M hp hm hl hr
  exact lv_if_gt M.1 M.2.1 hd ht (fun c9 => kt c9 p e R s m args below meth c H locs cells slots c0 s0 ls Q M hp hm hl hr) (fun c9 => kf c9 p e R s m args below meth c H locs cells slots c0 s0 ls Q M hp hm hl hr)
theorem r_if_le {x : Int32} {off : Int} (tgt : Nat) (hd : decode y.2.1 pc = .ok (.ifCond .le off, 3)) (ht : (pc : Int) + off = (tgt : Int)) (kt : x ≤ 0 → RR G nc ns y tgt L S h Z) (kf : ¬ x ≤ 0 → RR G nc ns y (pc + 3) L S h Z) : RR G nc ns y pc L (.int x :: S) h Z := by
  intro p e R s m args below meth c H locs cells slots c0 s0 ls Q M hp hm hl hr
  exact lv_if_le M.1 M.2.1 hd ht (fun c9 => kt c9 p e R s m args below meth c H locs cells slots c0 s0 ls Q M hp hm hl hr) (fun c9 => kf c9 p e R s m args below meth c H locs cells slots c0 s0 ls Q M hp hm hl hr)
theorem r_icmp_eq {x z : Int32} {off : Int} (tgt : Nat) (hd : decode y.2.1 pc = .ok (.if_icmp .eq off, 3)) (ht : (pc : Int) + off = (tgt : Int)) (kt : x = z → RR G nc ns y tgt L S h Z) (kf : ¬ x = z → RR G nc ns y (pc + 3) L S h Z) : RR G nc ns y pc L (.int z :: .int x :: S) h Z := by
  intro p e R s m args below meth c H locs cells slots c0 s0 ls Q M hp hm hl hr
  exact lv_icmp_eq M.1 M.2.1 hd ht (fun c9 => kt c9 p e R s m args below meth c H locs cells slots c0 s0 ls Q M hp hm hl hr) (fun c9 => kf c9 p e R s m args below meth c H locs cells slots c0 s0 ls Q M hp hm hl hr)
theorem r_icmp_ne {x z : Int32} {off : Int} (tgt : Nat) (hd : decode y.2.1 pc = .ok (.if_icmp .ne off, 3)) (ht : (pc : Int) + off = (tgt : Int)) (kt : ¬ x = z → RR G nc ns y tgt L S h Z) (kf : x = z → RR G nc ns y (pc + 3) L S h Z) : RR G nc ns y pc L (.int z :: .int x :: S) h Z := by
  intro p e R s m args below meth c H locs cells slots c0 s0 ls Q M hp hm hl hr
  exact lv_icmp_ne M.1 M.2.1 hd ht (fun c9 => kt c9 p e R s m args below meth c H locs cells slots c0 s0 ls Q M hp hm hl hr) (fun c9 => kf c9 p e R s m args below meth c H locs cells slots c0 s0 ls Q M hp hm hl hr)
theorem r_icmp_lt {x z : Int32} {off : Int} (tgt : Nat) (hd : decode y.2.1 pc = .ok (.if_icmp .lt off, 3)) (ht : (pc : Int) + off = (tgt : Int)) (kt : x < z → RR G nc ns y tgt L S h Z) (kf : ¬ x < z → RR G nc ns y (pc + 3) L S h Z) : RR G nc ns y pc L (.int z :: .int x :: S) h Z := by
  intro p e R s m args below meth c H locs cells slots c0 s0 ls Q M hp hm hl hr
  exact lv_icmp_lt M.1 M.2.1 hd ht (fun c9 => kt c9 p e R s m args below meth c H locs cells slots c0 s0 ls Q M hp hm hl hr) (fun c9 => kf c9 p e R s m args below meth c H locs cells slots c0 s0 ls Q M hp hm hl hr)
theorem r_icmp_ge {x z : Int32} {off : Int} (tgt : Nat) (hd : decode y.2.1 pc = .ok (.if_icmp .ge off, 3)) (ht : (pc : Int) + off = (tgt : Int)) (kt : z ≤ x → RR G nc ns y tgt L S h Z) (kf : ¬ z ≤ x → RR G nc ns y (pc + 3) L S h Z) : RR G nc ns y pc L (.int z :: .int x :: S) h Z := by
  intro p e R s m args below meth c H locs cells slots c0 s0 ls Q M hp hm hl hr
  exact lv_icmp_ge M.1 M.2.1 hd ht (fun c9 => kt c9 p e R s m args below meth c H locs cells slots c0 s0 ls Q M hp hm hl hr) (fun c9 => kf c9 p e R s m args below meth c H locs cells slots c0 s0 ls Q M hp hm hl hr)
theorem r_icmp_gt {x z : Int32} {off : Int} (tgt : Nat) (hd : decode y.2.1 pc = .ok (.if_icmp .gt off, 3)) (ht : (pc : Int) + off = (tgt : Int)) (kt : z < x → RR G nc ns y tgt L S h Z) (kf : ¬ z < x → RR G nc ns y (pc + 3) L S h Z) : RR G nc ns y pc L (.int z :: .int x :: S) h Z := by
  intro p e R s m args below meth c H locs cells slots c0 s0 ls Q M hp hm hl hr
  exact lv_icmp_gt M.1 M.2.1 hd ht (fun c9 => kt c9 p e R s m args below meth c H locs cells slots c0 s0 ls Q M hp hm hl hr) (fun c9 => kf c9 p e R s m args below meth c H locs cells slots c0 s0 ls Q M hp hm hl hr)
theorem r_icmp_le {x z : Int32} {off : Int} (tgt : Nat) (hd : decode y.2.1 pc = .ok (.if_icmp .le off, 3)) (ht : (pc : Int) + off = (tgt : Int)) (kt : x ≤ z → RR G nc ns y tgt L S h Z) (kf : ¬ x ≤ z → RR G nc ns y (pc + 3) L S h Z) : RR G nc ns y pc L (.int z :: .int x :: S) h Z := by
  intro p e R s m args below meth c H locs cells slots c0 s0 ls Q M hp hm hl hr
  exact lv_icmp_le M.1 M.2.1 hd ht (fun c9 => kt c9 p e R s m args below meth c H locs cells slots c0 s0 ls Q M hp hm hl hr) (fun c9 => kf c9 p e R s m args below meth c H locs cells slots c0 s0 ls Q M hp hm hl hr)
theorem r_istore_nL {k0 : Fin 4} {x : Int32} (L1 : List (Option Value)) (hd : decode y.2.1 pc = .ok (.istore_n k0, 1)) (hn : (k0 : Nat) < y.2.2.1) (e1 : st1 L (k0 : Nat) (.int x) = L1) (k : RR G nc ns y (pc + 1) L1 S h Z) : RR G nc ns y pc L (.int x :: S) h Z := r_istore_n hd hn (e1 ▸ k)
theorem r_istoreL {i : Nat} {x : Int32} (L1 : List (Option Value)) (hd : decode y.2.1 pc = .ok (.istore i, 2)) (hn : i < y.2.2.1) (e1 : st1 L i (.int x) = L1) (k : RR G nc ns y (pc + 2) L1 S h Z) : RR G nc ns y pc L (.int x :: S) h Z := r_istore hd hn (e1 ▸ k)
theorem r_astore_nL {k0 : Fin 4} {x : Nat} (L1 : List (Option Value)) (hd : decode y.2.1 pc = .ok (.astore_n k0, 1)) (hn : (k0 : Nat) < y.2.2.1) (e1 : st1 L (k0 : Nat) (.ref x) = L1) (k : RR G nc ns y (pc + 1) L1 S h Z) : RR G nc ns y pc L (.ref x :: S) h Z := r_astore_n hd hn (e1 ▸ k)
theorem r_astoreL {i : Nat} {x : Nat} (L1 : List (Option Value)) (hd : decode y.2.1 pc = .ok (.astore i, 2)) (hn : i < y.2.2.1) (e1 : st1 L i (.ref x) = L1) (k : RR G nc ns y (pc + 2) L1 S h Z) : RR G nc ns y pc L (.ref x :: S) h Z := r_astore hd hn (e1 ▸ k)
theorem r_lstore_nL {k0 : Fin 4} {x : Int64} (L1 : List (Option Value)) (hd : decode y.2.1 pc = .ok (.lstore_n k0, 1)) (hn : (k0 : Nat) + 1 < y.2.2.1) (e1 : st2 L (k0 : Nat) (.long x) = L1) (k : RR G nc ns y (pc + 1) L1 S h Z) : RR G nc ns y pc L (.long x :: S) h Z := r_lstore_n hd hn (e1 ▸ k)
theorem r_lstoreL {i : Nat} {x : Int64} (L1 : List (Option Value)) (hd : decode y.2.1 pc = .ok (.lstore i, 2)) (hn : i + 1 < y.2.2.1) (e1 : st2 L i (.long x) = L1) (k : RR G nc ns y (pc + 2) L1 S h Z) : RR G nc ns y pc L (.long x :: S) h Z := r_lstore hd hn (e1 ▸ k)
theorem r_iincL {i : Nat} {n : Int} {x v : Int32} (L1 : List (Option Value)) (hd : decode y.2.1 pc = .ok (.iinc i n, 3)) (hx : L[i]? = some (some (.int x))) (hn : i < y.2.2.1) (hv : x + Int32.ofInt n = v) (e1 : st1 L i (.int v) = L1) (k : RR G nc ns y (pc + 3) L1 S h Z) : RR G nc ns y pc L S h Z := r_iinc hd hx hn hv (e1 ▸ k)
theorem r_ireturn {x : Int32} (hd : decode y.2.1 pc = .ok (.ireturn, 1)) (hy : y.2.2.2.1 = some .int) (hz : Z (some (.int x)) h) : RR G nc ns y pc L [.int x] h Z := by
  intro p e R s m args below meth c H locs cells slots c0 s0 ls Q M hp hm hl hr
  exact hr pc ls _ h H locs cells slots _ (Or.inr (Or.inl ⟨x, hd, rfl, rfl, Or.inl hy⟩)) hz hp hm
theorem r_zreturn {x : Int32} (hd : decode y.2.1 pc = .ok (.ireturn, 1)) (hy : y.2.2.2.1 = some .boolean) (hb : x = 0 ∨ x = 1) (hz : Z (some (.int x)) h) : RR G nc ns y pc L [.int x] h Z := by
  intro p e R s m args below meth c H locs cells slots c0 s0 ls Q M hp hm hl hr
  exact hr pc ls _ h H locs cells slots _ (Or.inr (Or.inl ⟨x, hd, rfl, rfl, Or.inr ⟨hy, hb⟩⟩)) hz hp hm
theorem r_lreturn {x : Int64} (hd : decode y.2.1 pc = .ok (.lreturn, 1)) (hy : y.2.2.2.1 = some .long) (hz : Z (some (.long x)) h) : RR G nc ns y pc L [.long x] h Z := by
  intro p e R s m args below meth c H locs cells slots c0 s0 ls Q M hp hm hl hr
  exact hr pc ls _ h H locs cells slots _ (Or.inr (Or.inr ⟨x, hd, rfl, rfl, hy⟩)) hz hp hm
theorem r_return (hd : decode y.2.1 pc = .ok (.return_, 1)) (hy : y.2.2.2.1 = none) (hz : Z none h) : RR G nc ns y pc L [] h Z := by
  intro p e R s m args below meth c H locs cells slots c0 s0 ls Q M hp hm hl hr
  exact hr pc ls _ h H locs cells slots _ (Or.inl ⟨hd, rfl, rfl, hy⟩) hz hp hm
end ROWS
