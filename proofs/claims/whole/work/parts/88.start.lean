/-! THE CLAIM OUT OF ONE WALK OF THE LAW'S BODY. Your part is whole_start (and what it stands on); all else here is the same for every law, but numbers. -/
def R_law : String := "PairBenchLaw"
def lw_P (b : Addr) (xs : List Int32) (args : Array Value) (s : State) : Prop := args = #[.ref b] ∧ s.IntsAt b xs ∧ xs.length ≤ 2048 ∧ (Jvm.Cond.and given_1 narrow_1).before args s = true
def lw_Q (_ : Array Value) (s : State) (o : Outcome) (t : State) : Prop := o = .returned (some (.int 1)) ∧ Framed s o t [] 600000 7302250
def lw_Z (below : List Frame) (a : Array Value) (s : State) : State → Prop := fun t => ∃ o, t.status = .running ∧ Ended t below o ∧ lw_Q a s o t
/-- the law's own end, with 1 on the stack, nothing written that was there before, its room as the claim has it -/
theorem lw_ret {p : Program} {l : Launch} {e : Env} {s : State} {m : MethodId} {below : List Frame} {meth : Method} {c : Code} {b : Nat} (hx : p.tables.exec = Jvm.exec) (hb : c.code = code) (hr : meth.sig.returnType = ret) (hlocks : meth.locks = false) {pc : Nat} {H : Heap} {ls : Array Slot} (hdg : decode code pc = .ok (.ireturn, 1)) : W p l e room_1 s m #[Value.ref b] below meth c H [] 600000 7302250 (lw_Z below #[Value.ref b] s) (F0 m pc ls [.int 1]) := by
  intro T hT X
  obtain ⟨fs, hret, hrun, hended, hW, hframe⟩ := X.leave (v := some (.int 1)) (hlocks := hlocks) (fun h => by rw [hr] at h; cases h)
  have hmeth' : T.vm.method? m = some meth := X.method'
  refine ⟨T.setFrames fs, ?_, .returned (some (.int 1)), hrun, hended, rfl, ⟨_, rfl⟩, hW, hframe⟩
  jvm_step X.here [X.here.top, hx, hb, hdg, hmeth', hr, ret, narrow_b1]
  (try refine ⟨rfl, ?_⟩); (try refine ⟨rfl, ?_⟩)
  first | (intro acts; rw [hret _ acts rfl rfl rfl]) | rw [hret _ _ rfl rfl rfl]
  exact Steps.refl _
/-- what holds at the law's entry: the machine, the code, the tables' words (any of lw_tbl by 'hts w (by decide +kernel)'), the script of L ints xs at the cell b, what the Statement gives of the start (any of its parts by flat_of_before) -/
def lw_At (p : Program) (s : State) (m : MethodId) (meth : Method) (c : Code) (b L : Nat) (xs : Nat → Int32) : Prop :=
  p.tables.exec = Jvm.exec ∧ c.code = code ∧ meth.sig.returnType = ret ∧ c.maxLocals = 4 ∧ s.vm.findClass R_law = some m.cls ∧ (∀ w ∈ lw_tbl, w.before #[Value.ref b] s = true) ∧ va_X b L xs s s.heap ∧ b < s.heap.size ∧ meth.locks = false ∧ (Jvm.Cond.and given_1 narrow_1).before #[Value.ref b] s = true ∧ meth.name = yL_law.name
theorem lw_TB {D : va_G} {s : State} {b : Nat} (hts : ∀ w ∈ lw_tbl, w.before #[Value.ref b] s = true) (hK : va_K D vwCl [] s) : TB D s := by
  refine ⟨fun w hw hg A => word_at (State.WarmedH.refl s) (good_of_word hg) (hts w hw), fun w hw hg => ?_, fun ty A hty => ?_, hK⟩
  · have h9 := hts w hw
    cases w with
    | methodLinkNest a i x b => exact h9
    | _ => cases hg
  · rcases hty with e | e
    · subst e
      exact over_moved (Vm.Alike.refl s.vm) (hts _ (mT1 54 (by decide +kernel)))
    · subst e
      exact over_moved (Vm.Alike.refl s.vm) (hts _ (mT1 27 (by decide +kernel)))
theorem lw_K {s : State} {b : Nat} (hts : ∀ w ∈ lw_tbl, w.before #[Value.ref b] s = true) : ∃ D : va_G, va_K D vwCl [] s := by
  obtain ⟨c0, i0, k0⟩ := u_known (C := RX0) (T := TX0) (N := 8) (n := 8) hts inT0 (hts _ in_RX0)
  obtain ⟨c1, i1, k1⟩ := u_known (C := RX1) (T := TX1) (N := 4) (n := 4) hts inT1 (hts _ in_RX1)
  obtain ⟨c2, i2, k2⟩ := u_known (C := RX2) (T := TX2) (N := 6) (n := 6) hts inT2 (hts _ in_RX2)
  obtain ⟨c3, i3, k3⟩ := u_known (C := RX3) (T := TX3) (N := 9) (n := 9) hts inT3 (hts _ in_RX3)
  obtain ⟨c4, i4, k4⟩ := u_known (C := RX4) (T := TX4) (N := 7) (n := 7) hts inT4 (hts _ in_RX4)
  obtain ⟨c5, i5, k5⟩ := u_known (C := RX5) (T := TX5) (N := 7) (n := 7) hts inT5 (hts _ in_RX5)
  obtain ⟨c6, i6, k6⟩ := u_known (C := RX6) (T := TX6) (N := 39) (n := 39) hts inT6 (hts _ in_RX6)
  refine ⟨(fun k => match k with | 0 => c0 | 1 => c1 | 2 => c2 | 3 => c3 | 4 => c4 | 5 => c5 | _ => c6, fun k => match k with | 0 => i0 | 1 => i1 | 2 => i2 | 3 => i3 | 4 => i4 | 5 => i5 | _ => i6), fun k q hq => ?_, fun k q hq => by simp at hq⟩
  match k, hq with
  | 0, hq => cases hq; exact k0
  | 1, hq => cases hq; exact k1
  | 2, hq => cases hq; exact k2
  | 3, hq => cases hq; exact k3
  | 4, hq => cases hq; exact k4
  | 5, hq => cases hq; exact k5
  | 6, hq => cases hq; exact k6
  | k + 7, hq => simp [vwCl] at hq
/-- the planes at the law's entry: the script alone -/
def lw_h (b L x : Nat) (xs : Nat → Int32) : PH := (fun a => if a = b then 1 else 0, fun _ => L, fun _ j => xs j, fun _ _ => 0, fun _ _ => 0, x, 0)
theorem lw_run {G : GG} {b L x : Nat} {xs : Nat → Int32} (hLs : L ≤ 2048) (hb : b < x) : RR G (x + 600000) 7302250 m_L_law 0 [some (.ref b), none, none, none] [] (lw_h b L x xs) (fun v _ => v = some (.int 1)) := by
  have n0 : hN (lw_h b L x xs) = x := rfl
  have s0 : hS (lw_h b L x xs) = 0 := rfl
  have sc0 : hK (lw_h b L x xs) b = 1 ∧ hL (lw_h b L x xs) b = L ∧ ∀ j, hI (lw_h b L x xs) b j = xs j := ⟨if_pos rfl, rfl, fun _ => rfl⟩
  generalize lw_h b L x xs = h at *
  refine s_L_law_0 (mc1 := 44) (ms1 := 936) (by omega) (by omega) (by omega) (by omega) (k_bench (x := hN h) rfl nA_k (by omega)) (fun h1 q1 n1 t1 => ?_)
  obtain ⟨a1, ci⟩ := q1
  refine s_L_law_7 (mc1 := 26) (ms1 := 76526) (by omega) (by omega) (by omega) (by omega) (k_model (y := hN h1) rfl nA_k nA_i (by omega)) (fun h2 q2 n2 t2 => ?_)
  obtain ⟨a2, mk⟩ := q2
  have e1 : hN h1 = hN h + 45 := by omega
  have ag1 : AG 0 (hN h) h h1 := nA_ag.trans a1
  have ag2 : AG 0 (hN h + 45) h1 h2 := by rw [← e1]; exact nA_ag.trans a2
  rw [e1] at mk
  refine s_L_law_15 ?_
  rw [e1, ← nI_0, show nI 0 = nI (4 * 0) from rfl]
  obtain ⟨w1, w2, w3, w4, w5⟩ := (ag1.trans (ag2.sub (Nat.le_refl _) (by omega))) b (Nat.zero_le _) (by omega)
  exact law_loop (N := hN h + 71) (S := 77506) (xs := xs) (Ls := L) hLs (by omega) (by omega) (fun _ => rfl) 514 0 h2 1 0 (fun _ => 0) (fun _ _ => false) 0 (fun _ _ => false) (by omega) (by omega) (by omega) ⟨⟨w1.trans sc0.1, w2.trans sc0.2.1, fun j => (w4 j).trans (sc0.2.2 j)⟩, by omega, ci.cok (by omega) ag2 (by omega) (by omega), mk, by omega, by omega, by omega⟩
theorem whole_start {p : Program} {e : Env} {s : State} {m : MethodId} {below : List Frame} {meth : Method} {c : Code} (l : Launch) {b L : Nat} {xs : Nat → Int32} (hLs : L ≤ 2048) (C0 : lw_At p s m meth c b L xs) : W p l e room_1 s m #[Value.ref b] below meth c s.heap [] 0 0 (lw_Z below #[Value.ref b] s) (entryFrame m ([Value.ref b] : List Value).toArray 4) := by
  obtain ⟨hx, hb, hr, hml, hown, hts, hX, hbl, hlocks, hgv, hname⟩ := C0
  obtain ⟨D, hKD⟩ := lw_K hts
  have hT := lw_TB hts hKD
  have hl := lv_entry ([Value.ref b]) (n := 4) (Nat.le_of_ble_eq_true rfl)
  rw [lg_entry_eq]
  generalize (lg_sl ([Value.ref b]) ++ List.replicate (4 - (lg_sl ([Value.ref b])).length) Slot.unset).toArray = ls at hl ⊢
  have run := lw_run (G := (l, D, s.heap.size)) (b := b) (L := L) (x := s.heap.size) (xs := xs) hLs hbl
  refine run p e room_1 s m #[Value.ref b] below meth c s.heap [] 0 0 s.heap.size 0 ls _ ⟨hx, hb, hml, hown, hT, hname, hr, hlocks, by decide, by decide, ?_, ?_⟩ ⟨rfl, fun a ha => ?_, fun a => ?_, Nat.le_refl _⟩ ⟨?_, ?_, ?_, rfl, fun q hq => by cases hq⟩ ⟨hl.1, hl.2.1, fun i v hi => ?_⟩ ?_
  · show s.heap.size + 600000 ≤ 600000 + s.heap.size; omega
  · show 7302250 ≤ 7302250 + 0; omega
  · have ha : s.heap.size ≤ a := ha
    show (if a = b then 1 else 0) = 0
    rw [if_neg (by omega)]
  · have ek : hK (lw_h b L s.heap.size xs) a = if a = b then 1 else 0 := rfl
    by_cases q : a = b
    · subst q
      rw [if_pos rfl] at ek
      exact ⟨fun _ => hX, fun ty z => (by rw [ek] at z; cases z), fun c q t z _ _ => (by rw [ek] at z; omega)⟩
    · rw [if_neg q] at ek
      exact ⟨fun z => (by rw [ek] at z; cases z), fun ty z => (by rw [ek] at z; cases z), fun c q t z _ _ => (by rw [ek] at z; omega)⟩
  · show s.heap.size ≤ s.heap.size + 600000; omega
  · show 0 ≤ 7302250; omega
  · show 0 + s.heap.size = s.heap.size; omega
  · exact hl.2.2 (i, v) (eL_get (n := 4) (As := [Value.ref b]) hi)
  · intro pc' ls' S' h' H' locs' cells' slots' v hra hz hp' hm'
    obtain ⟨e1, e2, e3, e4, e5⟩ := hm'
    have hz : v = some (.int 1) := hz
    rcases hra with ⟨hd, rfl, rfl, hret⟩ | ⟨y, hd, rfl, rfl, hret⟩ | ⟨y, hd, rfl, rfl, hret⟩
    · cases hz
    · cases hz
      refine va_forget e5 (W.widen (k := 600000) (n := 7302250) ?_ ?_ (lw_ret hx hb hr hlocks hd))
      · have e1 : hN h' ≤ s.heap.size + 600000 := e1
        omega
      · omega
    · cases hz
set_option maxHeartbeats 4000000 in
theorem lw_walk (l : Launch) (b : Addr) (xs : List Int32) : MetFree l x (headSpec (Jvm.Cond.code x code maxLocals ret :: tables_1) room_1) (lw_P b xs) (fun _ _ _ _ _ => True) lw_Q := by
  refine MetFree.of_bodyS (code := code) (maxLocals := maxLocals) (ret := ret) (by decide) ?_ ?_
  · intro args s m h hn
    obtain ⟨meth, c, h1, h2, h3, h4, h5, h6, -, -⟩ := Cond.code_spec hn (atoms_spec (ws := Jvm.Cond.code x code maxLocals ret :: tables_1) h _ List.mem_cons_self)
    exact ⟨meth, c, h1, h2, h3, h4, h5, h6⟩
  · intro p e s m args below meth c s₁ B hml0 hP _
    obtain ⟨rfl, hx, hbd, hgv⟩ := hP
    obtain ⟨scr, harrAt, hlist, hof, hsmall⟩ := hx
    obtain ⟨hcb, hkn, -, -⟩ := State.arrayAt?_spec harrAt
    have hown : s.vm.findClass R_law = some m.cls := findClass_of_methodNamed B.named
    have hts0 : ∀ c ∈ (Jvm.Cond.code x code maxLocals ret :: tables_1), c.before #[Value.ref b] s = true := atoms_spec (ws := Jvm.Cond.code x code maxLocals ret :: tables_1) B.pre
    have hts : ∀ w ∈ lw_tbl, w.before #[Value.ref b] s = true := k2_hts_sels lw_privs (fun w hw => hts0 w (List.mem_cons_of_mem _ hw)) lw_privs_ok
    have hml : c.maxLocals = 4 := B.maxLocals_eq (hts0 _ List.mem_cons_self)
    have X₀ : Stand p l e room_1 s m #[Value.ref b] below meth c s₁ [] 0 0 := Stand.of_body B
    have hh0 : s₁.heap = s.heap := by rw [B.state]; rfl
    have hsz : scr.slots.size = xs.length := by rw [← Array.length_toList, hlist, List.length_map]
    have hval : ∀ j : Nat, j < xs.length → scr.slots[j]? = some (.int (xs.getD j 0)) := fun j hj => by
      rw [← Array.getElem?_toList, hlist]
      simp [hj]
    have hbl : b < s.heap.size := (Array.getElem?_eq_some_iff.mp hcb).1
    have hX : va_X b xs.length (fun j => xs.getD j 0) s s.heap := ⟨scr, hcb, hof, hkn, hsz, hval⟩
    have K : W p l e room_1 s m #[Value.ref b] below meth c s₁.heap [] 0 0 (lw_Z below #[Value.ref b] s) (entryFrame m ([Value.ref b] : List Value).toArray 4) := by
      rw [hh0]
      exact whole_start l hbd ⟨B.exec, B.bytes, B.returns, hml, hown, hts, hX, hbl, B.notSynchronized, hgv, (name_of_methodNamed B.named B.method).1⟩
    obtain ⟨t, a1, o, b1, b2, b3⟩ := K s₁ rfl X₀
    exact ⟨t, o, a1, b1, b2, b3⟩
theorem lw_pre_spec {args : Array Value} {s : State} (h : (Jvm.Cond.and given_1 narrow_1).before args s = true) (hr : rest_1_c.before args s = true) : ∃ (b : Addr) (xs : List Int32), lw_P b xs args s := by
  have hs := flat_of_before _ h
  have hq := flat_of_before _ hr
  have hc : (Cond.count 1).before args s = true := hs _ (by decide +kernel)
  have harr : (Cond.arrayOf (.arg 0) .int).before args s = true := hs _ (by decide +kernel)
  have hle : (Cond.le (.length (.arg 0)) (.int 2048)).before args s = true := hs _ (by decide +kernel)
  have hlen : (Cond.isInt (.length (.arg 0))).before args s = true := hq _ (by decide +kernel)
  have hall : (Cond.all (.arg 0) (.isInt (.elem (.arg 0) (.index 0)))).before args s = true := hq _ (by decide +kernel)
  obtain ⟨b, xs, hb, hx⟩ := State.ints_of_pre rfl harr hlen hall
  have hsm : xs.length < 2 ^ 31 := hx.choose_spec.2.2.2
  have hev : (Term.length (.arg 0)).eval args s none [] s = some (.int xs.length.toInt32) := hx.length_eval hb
  have hv := Cond.le_ints hev (show (Term.int 2048).eval args s none [] s = some (.int 2048) from rfl)
  have hd : xs.length.toInt32 ≤ 2048 := by
    simpa [Cond.before, Cond.holds, hv] using hle
  have hN : xs.length ≤ 2048 := (Int32.ofNat_le_ofNat hsm (by decide)).mp (show Int32.ofNat xs.length ≤ Int32.ofNat 2048 from hd)
  exact ⟨b, xs, Cond.one_arg hc (show args[0]? = some (.ref b) from hb), hx, hN, h⟩
theorem lw_comes (l : Launch) : Comes l x (Jvm.Cond.code x code maxLocals ret :: tables_1) room_1 (fun tb e args s => Calls_1 tb e args s ∧ rest_1 tb e args s ∧ Pre_1 tb e args s)
    (fun _ _ args s o t => lw_Q args s o t) := by
  intro p e ha hc hk s m args below hf hfit hheap happ hpre
  obtain ⟨b, xs, hP⟩ := lw_pre_spec hpre.2.2 hpre.2.1
  obtain ⟨k, o, h1, h2, h3, hQ⟩ := lw_walk l b xs p e ha hc hk s m args below hf ((Spec.applies_iff_loose hf).mp happ).1 hP trivial
  exact ⟨k, o, h1, h2, h3, hQ⟩
theorem lw_frame {s t : State} {o : Outcome} {args : Array Value} (h : Framed s o t [] 600000 7302250) :
    Framed s o t (fieldLocs frame_1_writes args s ++ arrayLocs frame_1_arrays args s ++ staticLocs frame_1_statics s) 600000 7302250 := h
theorem lw_limb (L : Cond) (hL : ∀ (args : Array Value) (s t : State), L.after args s (.returned (some (.int 1))) t = true) :
    ArmFor flags0 classFile x code maxLocals ret World_1 tables_1 room_1 Calls_1 rest_1 Pre_1
      (fun tb e a s o t => postC L tb e a s o t ∧ Framed s o t (fieldLocs frame_1_writes a s ++ arrayLocs frame_1_arrays a s ++ staticLocs frame_1_statics s) 600000 7302250) := by
  intro l _ _ _ p e ha hc hk s m args below hf hfit hheap happ hpre
  obtain ⟨k, o, h1, h2, h3, rfl, hF⟩ := lw_comes l p e ha hc hk s m args below hf hfit hheap happ hpre
  exact ⟨k, _, h1, h2, h3, hL args s _, lw_frame hF⟩
theorem i_vc : Claimed_1_1 ∧ Claimed_1_2 := ⟨lw_limb limb_1_1 (fun args s t => by simp [limb_1_1, Cond.after, Cond.holds, Cond.value]), lw_limb limb_1_2 (fun args s t => Cond.after_iff.mpr (by
  first | (rw [show limb_1_2 = Cond.eq .result (.int 1) from rfl, Cond.eq_ints (x := 1) (y := 1) rfl rfl]; simp; done) | (simp [limb_1_2, Cond.value, Term.eval]; done)))⟩
