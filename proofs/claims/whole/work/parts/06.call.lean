section ALLOC
variable {G : GG} {nc ns : Nat} {y : MI} {pc : Nat} {L : List (Option Value)} {S : List Value} {h : PH} {Z : Option Value → PH → Prop}
theorem u1_ne {α : Type} {f : Nat → α} {a b : Nat} {v : α} (h : b ≠ a) : u1 f a v b = f b := if_neg h
theorem u1_eq {α : Type} {f : Nat → α} {a : Nat} {v : α} : u1 f a v a = v := if_pos rfl
theorem HP.grow {s : State} {H H' : Heap} {kd n : Nat} (hp : HP G s h H) (hz : H'.size = hN h + 1) (hH : ∀ q, q < hN h → H'[q]? = H[q]?) (hc : cR G.2.1 G.2.2 s (nA h kd n) H' (hN h)) : HP G s (nA h kd n) H' := by
  refine ⟨hz, fun a ha => ?_, fun b => ?_, Nat.le_succ_of_le hp.2.2.2⟩
  · have ha : hN h + 1 ≤ a := ha
    show u1 (hK h) (hN h) kd a = 0
    rw [u1_ne (by omega)]
    exact hp.2.1 a (by omega)
  · by_cases e : b = hN h
    · rw [e]; exact hc
    · refine (hp.2.2.1 b).keep (u1_ne e) (u1_ne e) (fun j => congrFun (u1_ne e) j) (fun j => congrFun (u1_ne e) j) (fun j => congrFun (u1_ne e) j) ?_
      rcases Nat.lt_or_ge b (hN h) with hb | hb
      · exact hH b hb
      · have h1 := hp.1
        rw [Array.getElem?_eq_none (by omega), Array.getElem?_eq_none (by omega)]
theorem RM.grow {locs : List Loc} {cells slots c0 s0 kd n : Nat} (hm : RM G nc ns h locs cells slots c0 s0) (h1 : hN h + 1 ≤ nc) (h2 : hS h + n ≤ ns) : RM G nc ns (nA h kd n) locs (cells + 1) (slots + n) c0 s0 := by
  obtain ⟨-, -, e1, e2, e3⟩ := hm
  exact ⟨h1, h2, by show cells + 1 + c0 = hN h + 1; omega, by show slots + n + s0 = hS h + n; omega, e3⟩
def okT : FieldType → Bool
  | .int | .boolean | .long => true
  | ty => ty.isReference
theorem fv_new {ty : FieldType} (hty : okT ty = true) (kd n j : Nat) : fv ty (nA h kd n) (hN h) j = defaultValue ty := by
  have e1 : hI (nA h kd n) (hN h) j = 0 := congrFun (u1_eq (f := hI h) (a := hN h) (v := fun _ => (0 : Int32))) j
  have e2 : hJ (nA h kd n) (hN h) j = 0 := congrFun (u1_eq (f := hJ h) (a := hN h) (v := fun _ => (0 : Int64))) j
  have e3 : hR (nA h kd n) (hN h) j = 0 := congrFun (u1_eq (f := hR h) (a := hN h) (v := fun _ => (0 : Nat))) j
  cases ty <;> simp [okT, FieldType.isReference] at hty <;> simp [fv, e1, e2, e3, rv, defaultValue]
theorem r_newarray {at0 : ArrayType} {ty : FieldType} {kd N : Nat} {n : Int32} (hd : decode y.2.1 pc = .ok (.newarray at0, 2)) (hty : newarray.typeOf at0 = ty) (hk : ak kd = some ty) (ho : okT ty = true) (hw : Cond.arrayClass ty ∈ lw_tbl) (hn : ¬ n < 0) (hNn : n.toNatClampNeg = N) (hb : N * componentBytes ty ≤ 536870912) (h1 : hN h + 1 ≤ nc) (h2 : hS h + N ≤ ns)
    (kk : RR G nc ns y (pc + 2) L (.ref (hN h) :: S) (nA h kd N) Z) : RR G nc ns y pc L (.int n :: S) h Z := by
  intro p e R s m args below meth cd H locs cells slots c0 s0 ls Q M hp hm hl hr
  subst hty
  have hcl : cells + 1 ≤ R.cells := by have := M.2.2.2.2.2.2.2.2.2.2.1; have := hm.2.2.1; omega
  have hsl : slots + N ≤ R.slots := by have := M.2.2.2.2.2.2.2.2.2.2.2; have := hm.2.2.2.1; omega
  refine W.newaK M.1 M.2.1 (M.2.2.2.2.1.1 _ hw rfl args) rfl hd rfl hn hNn hb hcl hsl hp.1 fun H' cA e1 e2 e3 e4 => ?_
  refine kk p e R s m args below meth cd H' locs (cells + 1) (slots + N) c0 s0 ls Q M (hp.grow e2 e3 (cR_arr (ty := newarray.typeOf at0) (cA := cA) (by show ak (u1 _ _ _ _) = _; rw [u1_eq]; exact hk) hp.2.2.2 ?_ e4)) (hm.grow h1 h2) hl hr
  rw [e1]
  have el : hL (nA h kd N) (hN h) = N := u1_eq
  rw [el]
  congr 2
  funext j
  exact (fv_new ho kd N j).symm
theorem r_new {c : Nat} {q : vw_C} {t : Nat → FieldType} {idx : Nat} (hd : decode y.2.1 pc = .ok (.new idx, 3)) (hq : vwCl[c]? = some q) (ht : tyL[c]? = some t) (hot : ∀ k, k < q.2.2 → okT (t k) = true) (w1 : Cond.classLink y.1.cls idx q.1 ∈ lw_tbl) (w2 : Cond.instantiable q.1 q.2.2 ∈ lw_tbl) (w3 : Cond.initialized q.1 ∈ lw_tbl) (h1 : hN h + 1 ≤ nc) (h2 : hS h + q.2.2 ≤ ns)
    (kk : RR G nc ns y (pc + 3) L (.ref (hN h) :: S) (nA h (10 + c) q.2.2) Z) : RR G nc ns y pc L S h Z := by
  intro p e R s m args below meth cd H locs cells slots c0 s0 ls Q M hp hm hl hr
  have hcl : cells + 1 ≤ R.cells := by have := M.2.2.2.2.2.2.2.2.2.2.1; have := hm.2.2.1; omega
  have hsl : slots + q.2.2 ≤ R.slots := by have := M.2.2.2.2.2.2.2.2.2.2.2; have := hm.2.2.2.1; omega
  have hT := M.2.2.2.2.1
  have hKn := hT.2.2.2.1 c _ hq
  refine W.newcK M.1 M.2.1 M.2.2.2.1 (hT.1 _ w1 rfl args) (hT.1 _ w2 rfl args) (hT.1 _ w3 rfl args) rfl hd hcl hsl hKn.2.1 hp.1 fun H' kC hkC e1 e2 e3 => ?_
  refine kk p e R s m args below meth cd H' locs (cells + 1) (slots + q.2.2) c0 s0 ls Q M (hp.grow e2 e3 ⟨fun z => ?_, fun ty z => ?_, fun c' q' t' z1 z2 z3 => ?_⟩) (hm.grow h1 h2) hl hr
  · have z : u1 (hK h) (hN h) (10 + c) (hN h) = 1 := z
    rw [u1_eq] at z; omega
  · have z : ak (u1 (hK h) (hN h) (10 + c) (hN h)) = some ty := z
    rw [u1_eq, show 10 + c = c + 10 by omega] at z
    cases z
  · have z1 : u1 (hK h) (hN h) (10 + c) (hN h) = 10 + c' := z1
    rw [u1_eq] at z1
    have ec : c' = c := by omega
    subst ec
    cases hq.symm.trans z2
    cases ht.symm.trans z3
    exact ⟨hp.2.2.2, (u_born t (hT.hts hq ht args) (fun _ h => h) hKn hkC e1 (tblOK c' q t hq ht).2.1).to (fun k hk => (fv_new (hot k hk) _ _ k).symm)⟩
theorem r_objInit {idx a : Nat} (hd : decode y.2.1 pc = .ok (.invokespecial idx, 3)) (hw : Cond.methodLink y.1.cls idx objectInit ∈ lw_tbl) (hi : Cond.instanceMethod objectInit ∈ lw_tbl) (hcd : Cond.code objectInit ⟨#[0xb1]⟩ 1 none ∈ lw_tbl) (hfr : 1 ≤ y.2.2.2.2.1) (hlo : 20 ≤ y.2.2.2.2.2) (hst : (S.map fun v => v.category).sum ≤ 8)
    (kk : RR G nc ns y (pc + 3) L S h Z) : RR G nc ns y pc L (.ref a :: S) h Z := by
  intro p e R s m args below meth cd H locs cells slots c0 s0 ls Q M hp hm hl hr
  have hT := M.2.2.2.2.1
  have h9 := M.2.2.2.2.2.2.2.2.1
  have h8 := M.2.2.2.2.2.2.2.2.2.1
  have h7 := lv_room (m := m) (pc := pc) (ls := ls) (rest := .ref a :: S) hst
  exact W.objInit M.1 M.2.1 M.2.2.2.1 (hT.1 _ hw rfl args) (hT.1 _ hi rfl args) (hT.1 _ hcd rfl args) rfl (by rw [M.2.2.1]; exact hl.1) rfl hd (by omega) (by omega) (kk p e R s m args below meth cd H locs cells slots c0 s0 ls Q M hp hm hl hr)
end ALLOC
section CALLS
variable {G : GG} {nc ns : Nat} {y : MI} {pc : Nat} {L : List (Option Value)} {S : List Value} {h : PH} {Z : Option Value → PH → Prop}
theorem pL_len (As : List Value) : (pL As).length = (lg_sl As).length := by
  induction As with
  | nil => rfl
  | cons v vs ih =>
    unfold pL
    simp only [lg_sl, List.flatMap_cons] at ih ⊢
    split <;> simp [ih, List.length_append] <;> omega
theorem pL_get : ∀ (As : List Value) (i0 i : Nat) (v : Value), (pL As)[i]? = some (some v) → (i0 + i, v) ∈ lv_args i0 As
  | [], _, _, _, h => by simp [pL] at h
  | w :: vs, i0, i, v, h => by
    unfold pL at h
    unfold lv_args
    by_cases hc : w.category = 2
    · rw [if_pos hc] at h
      rw [if_pos hc]
      match i, h with
      | 0, h => simp at h; subst h; exact List.mem_cons_self
      | 1, h => simp at h
      | k + 2, h =>
        have h : (pL vs)[k]? = some (some v) := by simpa using h
        have := pL_get vs (i0 + 2) k v h
        rw [show i0 + 2 + k = i0 + (k + 2) by omega] at this
        exact List.mem_cons_of_mem _ this
    · rw [if_neg hc] at h
      rw [if_neg hc]
      match i, h with
      | 0, h => simp at h; subst h; exact List.mem_cons_self
      | k + 1, h =>
        have h : (pL vs)[k]? = some (some v) := by simpa using h
        have := pL_get vs (i0 + 1) k v h
        rw [show i0 + 1 + k = i0 + (k + 1) by omega] at this
        exact List.mem_cons_of_mem _ this
def eL (n : Nat) (As : List Value) : List (Option Value) := pL As ++ List.replicate (n - (pL As).length) none
theorem eL_get {n : Nat} {As : List Value} {i : Nat} {v : Value} (h : (eL n As)[i]? = some (some v)) : (i, v) ∈ lv_args 0 As := by
  unfold eL at h
  rw [List.getElem?_append] at h
  split at h
  · have := pL_get As 0 i v h
    rwa [Nat.zero_add] at this
  · rw [List.getElem?_replicate] at h
    split at h <;> cases h
/-- a method's contract out of its walk -/
theorem Ev.of {As : List Value} {mc ms : Nat} (hy : plainName y.1.cls = true) (hn : (pL As).length ≤ y.2.2.1)
    (k : RR G (hN h + mc) (hS h + ms) y 0 (eL y.2.2.1 As) [] h (fun v h' => Z v h' ∧ hN h' = hN h + mc ∧ hS h' = hS h + ms)) : Ev G y As h mc ms Z := by
  refine Met.ofW (cc := y.2.1) (maxL := y.2.2.1) (ret := y.2.2.2.1) hy rfl ?_
  intro p e s m args below meth c s₁ B hml hv
  obtain ⟨rfl, hp, hT⟩ := hv
  have hown : s.vm.findClass y.1.cls = some m.cls := findClass_of_methodNamed B.named
  have hlocks := B.notSynchronized
  have hname : meth.name = y.1.name := (name_of_methodNamed B.named B.method).1
  have hl := lv_entry As (n := y.2.2.1) (by rw [← pL_len]; exact hn)
  rw [lg_entry_eq]
  generalize (lg_sl As ++ List.replicate (y.2.2.1 - (lg_sl As).length) Slot.unset).toArray = ls at hl ⊢
  refine k p e _ s m _ below meth c s.heap [] 0 0 (hN h) (hS h) ls _ ⟨B.exec, B.bytes, hml, hown, hT, hname, B.returns, hlocks, Nat.le_refl _, Nat.le_refl _, ?_, ?_⟩ hp ⟨Nat.le_add_right _ _, Nat.le_add_right _ _, Nat.zero_add _, Nat.zero_add _, fun q hq => by cases hq⟩ ⟨hl.1, hl.2.1, fun i v hi => hl.2.2 (i, v) (eL_get hi)⟩ ?_
  · show hN h + mc ≤ mc + hN h; omega
  · show hS h + ms ≤ ms + hS h; omega
  · intro pc' ls' S' h' H' locs' cells' slots' v hra hz hp' hm'
    obtain ⟨hz, e1, e2⟩ := hz
    obtain ⟨-, -, e3, e4, e5⟩ := hm'
    have ec : cells' = mc := by omega
    have es : slots' = ms := by omega
    subst ec; subst es
    rcases hra with ⟨hd, rfl, rfl, hret⟩ | ⟨x, hd, rfl, rfl, hret⟩ | ⟨x, hd, rfl, rfl, hret⟩
    · exact W.vret B.exec B.bytes (B.returns.trans hret) (fun t ht hW => ⟨none, h', rfl, hz, e1, e2, by rw [ht]; exact hp'.moved hW.alike⟩) e5 hd
    · rcases hret with hret | ⟨hret, hb⟩
      · exact W.iret B.exec B.bytes (B.returns.trans hret) (fun t ht hW => ⟨some (.int x), h', rfl, hz, e1, e2, by rw [ht]; exact hp'.moved hW.alike⟩) e5 hd
      · exact W.zret B.exec B.bytes (B.returns.trans hret) (by rcases hb with rfl | rfl <;> rfl) (fun t ht hW => ⟨some (.int x), h', rfl, hz, e1, e2, by rw [ht]; exact hp'.moved hW.alike⟩) e5 hd
    · exact W.lret B.exec B.bytes (B.returns.trans hret) (fun t ht hW => ⟨some (.long x), h', rfl, hz, e1, e2, by rw [ht]; exact hp'.moved hW.alike⟩) e5 hd
theorem Ev.mono {As : List Value} {mc ms : Nat} {Z' : Option Value → PH → Prop} (k : Ev G y As h mc ms Z') (hz : ∀ v h', Z' v h' → Z v h') : Ev G y As h mc ms Z := by
  unfold Ev Met at *
  exact MetFree.mono k (fun _ _ hp => hp) (fun _ _ _ _ _ hp => hp) (fun a st o t _ hq => by
    obtain ⟨⟨v, h', q1, q2, q3⟩, q4⟩ := hq
    exact ⟨⟨v, h', q1, hz v h' q2, q3⟩, q4⟩)
theorem TB_blind {D : va_G} {U : State} {g : JFrame} {mk : MethodId} {a : Array Value} (hT : TB D U) : TB D (U.calling g mk a) := TB.moved (U := U.calling g mk a) (State.WarmedH.refl U) hT
theorem Pc_blind {As : List Value} : FrameBlind (va_Pc As (fun U => HP G U h U.heap ∧ TB G.2.1 U)) := by
  intro a U g mk hq
  obtain ⟨q0, q1, q2⟩ := hq
  exact ⟨q0, HP.moved (s := U) (U := U.calling g mk a) (Vm.Alike.refl U.vm) q1, TB_blind q2⟩
/-- behind a call -/
theorem r_after {p : Program} {e : Env} {R : Room} {s : State} {m : MethodId} {args : Array Value} {below : List Frame} {meth : Method} {cd : Code} {H : Heap} {locs : List Loc} {cells slots c0 s0 mc ms : Nat} {ls : Array Slot} {Q : State → Prop} {st0 : List Value} {Z2 : Option Value → PH → Prop}
    (M : MC G nc ns y p R s m meth cd c0 s0) (hm : RM G nc ns h locs cells slots c0 s0) (hl : lL ls y.2.2.1 L) (h1 : hN h + mc ≤ nc) (h2 : hS h + ms ≤ ns)
    (hr : ∀ (pc' : Nat) (ls' : Array Slot) (S' : List Value) (h' : PH) (H' : Heap) (locs' : List Loc) (cells' slots' : Nat) (v : Option Value), RA y pc' S' v → Z v h' → HP G s h' H' → RM G nc ns h' locs' cells' slots' c0 s0 → W p G.1 e R s m args below meth cd H' locs' cells' slots' Q (F0 m pc' ls' S'))
    (run : va_Run p G.1 e R s m args below meth cd H locs cells slots mc ms (F0 m pc ls st0) S (fun _ oc t => ∃ (v : Option Value) (h' : PH), oc = .returned v ∧ Z2 v h' ∧ hN h' = hN h + mc ∧ hS h' = hS h + ms ∧ HP G t h' t.heap) (fun q => G.2.2 ≤ q))
    (kk : ∀ (v : Option Value) (h' : PH), Z2 v h' → hN h' = hN h + mc → hS h' = hS h + ms → RR G nc ns y (pc + 3) L (v.toList ++ S) h' Z) : W p G.1 e R s m args below meth cd H locs cells slots Q (F0 m pc ls st0) := by
  intro T hT X
  obtain ⟨v, st₀, t, T', L', h0, X', hL, e1, e2, ⟨v', h', hv, hz, hn', hs', hpt⟩, st⟩ := run T hT X
  cases hv
  have hal : s.vm.Alike t.vm := by rw [← e2]; exact X'.warmed.alike
  obtain ⟨-, -, q1, q2, q3⟩ := hm
  obtain ⟨t2, a1, b1⟩ := kk v h' hz hn' hs' p e R s m args below meth cd T'.heap (locs ++ L') (cells + mc) (slots + ms) c0 s0 ls Q M (by rw [e1]; exact hpt.moved hal.symm) ⟨by omega, by omega, by omega, by omega, fun q hq => by
    rcases List.mem_append.mp hq with z | z
    · exact q3 q z
    · exact hL q z⟩ hl hr T' rfl X'
  exact ⟨t2, st t2 a1, b1⟩
/-- what a caller must know of a callee, whoever calls -/
def CK (y2 : MI) (n : Nat) : Prop := (y2.1.cls ≠ "java/lang/invoke/MethodHandle" ∧ y2.1.cls ≠ "java/lang/invoke/VarHandle") ∧ (parseMethodDescriptor y2.1.desc).map (fun d => d.parameters.length) = some n ∧ Cond.code y2.1 y2.2.1 y2.2.2.1 y2.2.2.2.1 ∈ lw_tbl ∧ Cond.initialized y2.1.cls ∈ lw_tbl
theorem code_good (x : MethodName) (b : ByteArray) (n : Nat) (r : Option FieldType) : goodWord (.code x b n r) = true := rfl
theorem CK.callB {y2 : MI} {n mc ms idx : Nat} {R : Room} {s : State} {args : Array Value} {D : va_G} {own : String} (hc : CK y2 n) (hT : TB D s) (hw : Cond.methodLink own idx y2.1 ∈ lw_tbl) (hfr : y2.2.2.2.2.1 + 1 ≤ R.frames) (hlo : 8 + (y2.2.2.1 + 11) + y2.2.2.2.2.2 ≤ R.locals) :
    CallB R s args own idx y2.1 y2.2.1 y2.2.2.1 y2.2.2.2.1 [Cond.code y2.1 y2.2.1 y2.2.2.1 y2.2.2.2.1] { frames := y2.2.2.2.2.1, cells := mc, slots := ms, locals := y2.2.2.2.2.2 } mc ms n := by
  obtain ⟨c1, c2, c3, c4⟩ := hc
  refine ⟨rfl, rfl, hfr, hlo, fun w hw' a' U hW => ?_, List.mem_cons_self, hT.1 _ c3 rfl args, hT.1 _ c4 rfl args, c1, fun sig hs => ?_, hT.1 _ hw rfl args⟩
  · rw [List.mem_singleton.mp hw']
    exact word_at hW (good_of_word (code_good _ _ _ _)) (hT.1 _ c3 rfl args)
  · rw [hs] at c2
    exact (Option.some.inj c2).symm
theorem r_callV {y2 : MI} {n mc ms idx c b : Nat} {q : vw_C} {As : List Value} {Z2 : Option Value → PH → Prop} {st0 : List Value} (hd : decode y.2.1 pc = .ok (.invokevirtual idx, 3)) (hc : CK y2 n) (hi : Cond.instanceMethod y2.1 ∈ lw_tbl) (hs : Cond.selects y2.1.cls y2.1 y2.1 ∈ lw_tbl) (hw : Cond.methodLink y.1.cls idx y2.1 ∈ lw_tbl) (hq : vwCl[c]? = some q) (hqn : q.1 = y2.1.cls) (hb : hK h b = 10 + c)
    (hfr : y2.2.2.2.2.1 + 1 ≤ y.2.2.2.2.1) (hlo : 8 + (y2.2.2.1 + 11) + y2.2.2.2.2.2 ≤ y.2.2.2.2.2) (hn : As.length = n) (hst : st0 = As.reverse ++ .ref b :: S) (hcat : (S.map fun v => v.category).sum ≤ 8) (h1 : mc = 0 ∨ hN h + mc ≤ nc) (h2 : ms = 0 ∨ hS h + ms ≤ ns)
    (he : Ev G y2 (.ref b :: As) h mc ms Z2) (kk : ∀ (v : Option Value) (h' : PH), Z2 v h' → hN h' = hN h + mc → hS h' = hS h + ms → RR G nc ns y (pc + 3) L (v.toList ++ S) h' Z) : RR G nc ns y pc L st0 h Z := by
  intro p e R s m args below meth cd H locs cells slots c0 s0 ls Q M hp hm hl hr
  have h1 : hN h + mc ≤ nc := by
    rcases h1 with rfl | h1
    · exact hm.1
    · exact h1
  have h2 : hS h + ms ≤ ns := by
    rcases h2 with rfl | h2
    · exact hm.2.1
    · exact h2
  have hT := M.2.2.2.2.1
  have f1 := M.2.2.2.2.2.2.2.2.1
  have f2 := M.2.2.2.2.2.2.2.2.2.1
  have f3 := M.2.2.2.2.2.2.2.2.2.2.1
  have f4 := M.2.2.2.2.2.2.2.2.2.2.2
  have g1 := hm.2.2.1
  have g2 := hm.2.2.2.1
  refine r_after M hm hl h1 h2 hr (va_runV (Ts := []) (C := y2.1.cls) (b := b) (As := As) (nL := y.2.2.1) (own := y.1.cls) ⟨M.1, M.2.1, M.2.2.1, M.2.2.2.1, fun w hw' => by cases hw'⟩ he ⟨hc.callB hT hw (Nat.le_trans hfr f1) (Nat.le_trans hlo f2), hT.1 _ hi rfl args, hT.1 _ hs rfl args⟩ ⟨Pc_blind, ?_, fun U hU hW => ⟨rfl, by rw [hU]; exact hp.moved hW.alike, hT.moved hW⟩⟩ rfl hn hl.1 hst (lv_room hcat) hd ⟨by omega, by omega⟩) kk
  obtain ⟨t, ht⟩ : ∃ t, tyL[c]? = some t := by
    match c, hq with
    | 0, _ => exact ⟨_, rfl⟩
    | 1, _ => exact ⟨_, rfl⟩
    | 2, _ => exact ⟨_, rfl⟩
    | 3, _ => exact ⟨_, rfl⟩
    | 4, _ => exact ⟨_, rfl⟩
    | 5, _ => exact ⟨_, rfl⟩
    | 6, _ => exact ⟨_, rfl⟩
    | k + 7, hq => cases hq
  obtain ⟨-, cell, q1, q2, q3, q4⟩ := (hp.2.2.1 b).2.2 c q t hb hq ht
  exact ⟨cell, q1, by rw [q3]; rfl, by rw [q2, ← hqn]; exact (hT.2.2.2.1 c q hq).2.1⟩
theorem r_callI {y2 : MI} {n mc ms idx b : Nat} {As : List Value} {Z2 : Option Value → PH → Prop} {st0 : List Value} (hd : decode y.2.1 pc = .ok (.invokespecial idx, 3)) (hc : CK y2 n) (hi : Cond.instanceMethod y2.1 ∈ lw_tbl) (hini : y2.1.name = "<init>") (hret : y2.2.2.2.1 = none) (hw : Cond.methodLink y.1.cls idx y2.1 ∈ lw_tbl)
    (hfr : y2.2.2.2.2.1 + 1 ≤ y.2.2.2.2.1) (hlo : 8 + (y2.2.2.1 + 11) + y2.2.2.2.2.2 ≤ y.2.2.2.2.2) (hn : As.length = n) (hst : st0 = As.reverse ++ .ref b :: S) (hcat : (S.map fun v => v.category).sum ≤ 8) (h1 : mc = 0 ∨ hN h + mc ≤ nc) (h2 : ms = 0 ∨ hS h + ms ≤ ns)
    (he : Ev G y2 (.ref b :: As) h mc ms Z2) (kk : ∀ (v : Option Value) (h' : PH), Z2 v h' → hN h' = hN h + mc → hS h' = hS h + ms → RR G nc ns y (pc + 3) L (v.toList ++ S) h' Z) : RR G nc ns y pc L st0 h Z := by
  intro p e R s m args below meth cd H locs cells slots c0 s0 ls Q M hp hm hl hr
  have h1 : hN h + mc ≤ nc := by
    rcases h1 with rfl | h1
    · exact hm.1
    · exact h1
  have h2 : hS h + ms ≤ ns := by
    rcases h2 with rfl | h2
    · exact hm.2.1
    · exact h2
  have hT := M.2.2.2.2.1
  have f1 := M.2.2.2.2.2.2.2.2.1
  have f2 := M.2.2.2.2.2.2.2.2.2.1
  have f3 := M.2.2.2.2.2.2.2.2.2.2.1
  have f4 := M.2.2.2.2.2.2.2.2.2.2.2
  have g1 := hm.2.2.1
  have g2 := hm.2.2.2.1
  have hB := hc.callB (mc := mc) (ms := ms) (args := args) hT hw (Nat.le_trans hfr f1) (Nat.le_trans hlo f2)
  unfold Ev at he
  rw [hret] at hB he
  exact r_after M hm hl h1 h2 hr (va_runI (Ts := []) (b := b) (As := As) (nL := y.2.2.1) (own := y.1.cls) ⟨M.1, M.2.1, M.2.2.1, M.2.2.2.1, fun w hw' => by cases hw'⟩ he ⟨hB, hini, hT.1 _ hi rfl args⟩ ⟨Pc_blind, fun U hU hW => ⟨rfl, by rw [hU]; exact hp.moved hW.alike, hT.moved hW⟩⟩ rfl hn hl.1 hst (lv_room hcat) hd ⟨by omega, by omega⟩) kk
theorem r_callS {y2 : MI} {n mc ms idx : Nat} {As : List Value} {Z2 : Option Value → PH → Prop} {st0 : List Value} (hd : decode y.2.1 pc = .ok (.invokestatic idx, 3)) (hc : CK y2 n) (hi : Cond.static y2.1 ∈ lw_tbl) (hw : Cond.methodLink y.1.cls idx y2.1 ∈ lw_tbl)
    (hfr : y2.2.2.2.2.1 + 1 ≤ y.2.2.2.2.1) (hlo : 8 + (y2.2.2.1 + 11) + y2.2.2.2.2.2 ≤ y.2.2.2.2.2) (hn : As.length = n) (hst : st0 = As.reverse ++ S) (hcat : (S.map fun v => v.category).sum ≤ 8) (h1 : mc = 0 ∨ hN h + mc ≤ nc) (h2 : ms = 0 ∨ hS h + ms ≤ ns)
    (he : Ev G y2 As h mc ms Z2) (kk : ∀ (v : Option Value) (h' : PH), Z2 v h' → hN h' = hN h + mc → hS h' = hS h + ms → RR G nc ns y (pc + 3) L (v.toList ++ S) h' Z) : RR G nc ns y pc L st0 h Z := by
  intro p e R s m args below meth cd H locs cells slots c0 s0 ls Q M hp hm hl hr
  have h1 : hN h + mc ≤ nc := by
    rcases h1 with rfl | h1
    · exact hm.1
    · exact h1
  have h2 : hS h + ms ≤ ns := by
    rcases h2 with rfl | h2
    · exact hm.2.1
    · exact h2
  have hT := M.2.2.2.2.1
  have f1 := M.2.2.2.2.2.2.2.2.1
  have f2 := M.2.2.2.2.2.2.2.2.2.1
  have f3 := M.2.2.2.2.2.2.2.2.2.2.1
  have f4 := M.2.2.2.2.2.2.2.2.2.2.2
  have g1 := hm.2.2.1
  have g2 := hm.2.2.2.1
  exact r_after M hm hl h1 h2 hr (va_runS (Ts := []) (As := As) (nL := y.2.2.1) (own := y.1.cls) ⟨M.1, M.2.1, M.2.2.1, M.2.2.2.1, fun w hw' => by cases hw'⟩ he ⟨hc.callB hT hw (Nat.le_trans hfr f1) (Nat.le_trans hlo f2), hT.1 _ hi rfl args⟩ ⟨Pc_blind, fun U hU hW => ⟨rfl, by rw [hU]; exact hp.moved hW.alike, hT.moved hW⟩⟩ rfl hn hl.1 hst (lv_room hcat) hd ⟨by omega, by omega⟩) kk
theorem r_callSN {y2 : MI} {n mc ms idx : Nat} {host : String} {As : List Value} {Z2 : Option Value → PH → Prop} {st0 : List Value} (hd : decode y.2.1 pc = .ok (.invokestatic idx, 3)) (hc : CK y2 n) (hi : Cond.static y2.1 ∈ lw_tbl) (hw : Cond.methodLinkNest y.1.cls idx y2.1 host ∈ lw_tbl)
    (hfr : y2.2.2.2.2.1 + 1 ≤ y.2.2.2.2.1) (hlo : 8 + (y2.2.2.1 + 11) + y2.2.2.2.2.2 ≤ y.2.2.2.2.2) (hn : As.length = n) (hst : st0 = As.reverse ++ S) (hcat : (S.map fun v => v.category).sum ≤ 8) (h1 : mc = 0 ∨ hN h + mc ≤ nc) (h2 : ms = 0 ∨ hS h + ms ≤ ns)
    (he : Ev G y2 As h mc ms Z2) (kk : ∀ (v : Option Value) (h' : PH), Z2 v h' → hN h' = hN h + mc → hS h' = hS h + ms → RR G nc ns y (pc + 3) L (v.toList ++ S) h' Z) : RR G nc ns y pc L st0 h Z := by
  intro p e R s m args below meth cd H locs cells slots c0 s0 ls Q M hp hm hl hr
  have h1 : hN h + mc ≤ nc := by
    rcases h1 with rfl | h1
    · exact hm.1
    · exact h1
  have h2 : hS h + ms ≤ ns := by
    rcases h2 with rfl | h2
    · exact hm.2.1
    · exact h2
  have hT := M.2.2.2.2.1
  have f1 := M.2.2.2.2.2.2.2.2.1
  have f2 := M.2.2.2.2.2.2.2.2.2.1
  have f3 := M.2.2.2.2.2.2.2.2.2.2.1
  have f4 := M.2.2.2.2.2.2.2.2.2.2.2
  have g1 := hm.2.2.1
  have g2 := hm.2.2.2.1
  obtain ⟨c1, c2, c3, c4⟩ := hc
  have hB : va_CN R s args y.1.cls idx y2.1 host y2.2.1 y2.2.2.1 y2.2.2.2.1 [Cond.code y2.1 y2.2.1 y2.2.2.1 y2.2.2.2.1] { frames := y2.2.2.2.2.1, cells := mc, slots := ms, locals := y2.2.2.2.2.2 } mc ms n := by
    refine ⟨⟨rfl, rfl, Nat.le_trans hfr f1, Nat.le_trans hlo f2, fun w hw' a' U hW => ?_, List.mem_cons_self⟩, hT.1 _ c3 rfl args, hT.1 _ c4 rfl args, c1, fun sig hs => ?_, va_Nw.use rfl (hT.2.1 _ hw rfl)⟩
    · rw [List.mem_singleton.mp hw']
      exact word_at hW (good_of_word (code_good _ _ _ _)) (hT.1 _ c3 rfl args)
    · rw [hs] at c2
      exact (Option.some.inj c2).symm
  exact r_after M hm hl h1 h2 hr (va_runSN (Ts := []) (As := As) (nL := y.2.2.1) (own := y.1.cls) ⟨M.1, M.2.1, M.2.2.1, M.2.2.2.1, fun w hw' => by cases hw'⟩ he ⟨hB, hT.1 _ hi rfl args, trivial⟩ ⟨Pc_blind, fun U hU hW => ⟨rfl, by rw [hU]; exact hp.moved hW.alike, hT.moved hW⟩⟩ rfl hn hl.1 hst (lv_room hcat) hd ⟨by omega, by omega⟩) kk
end CALLS
