/-! THE MACHINE AS A PURE ONE: a heap of planes (kinds, lengths, ints, longs, references), a judgement RR for a point of a method, Ev for a call, a row an instruction -/
abbrev PH : Type := (Nat → Nat) × (Nat → Nat) × (Nat → Nat → Int32) × (Nat → Nat → Int64) × (Nat → Nat → Nat) × Nat × Nat
def hK (h : PH) : Nat → Nat := h.1
def hL (h : PH) : Nat → Nat := h.2.1
def hI (h : PH) : Nat → Nat → Int32 := h.2.2.1
def hJ (h : PH) : Nat → Nat → Int64 := h.2.2.2.1
def hR (h : PH) : Nat → Nat → Nat := h.2.2.2.2.1
def hN (h : PH) : Nat := h.2.2.2.2.2.1
def hS (h : PH) : Nat := h.2.2.2.2.2.2
def u2 {α : Type} (f : Nat → Nat → α) (a k : Nat) (v : α) : Nat → Nat → α := fun b j => if b = a ∧ j = k then v else f b j
def u1 {α : Type} (f : Nat → α) (a : Nat) (v : α) : Nat → α := fun b => if b = a then v else f b
def sI (h : PH) (a k : Nat) (v : Int32) : PH := (hK h, hL h, u2 (hI h) a k v, hJ h, hR h, hN h, hS h)
def sJ (h : PH) (a k : Nat) (v : Int64) : PH := (hK h, hL h, hI h, u2 (hJ h) a k v, hR h, hN h, hS h)
def sR (h : PH) (a k : Nat) (v : Nat) : PH := (hK h, hL h, hI h, hJ h, u2 (hR h) a k v, hN h, hS h)
/-- a new cell of kind kd with n places, all 0 -/
def nA (h : PH) (kd n : Nat) : PH := (u1 (hK h) (hN h) kd, u1 (hL h) (hN h) n, u1 (hI h) (hN h) (fun _ => 0), u1 (hJ h) (hN h) (fun _ => 0), u1 (hR h) (hN h) (fun _ => 0), hN h + 1, hS h + n)
def rv (x : Nat) : Value := if x = 0 then .null else .ref x
/-- what stands at place k of the cell a, by the type of that place -/
def fv (ty : FieldType) (h : PH) (a k : Nat) : Value := match ty with
  | .int => .int (hI h a k)
  | .boolean => .int (hI h a k)
  | .long => .long (hJ h a k)
  | _ => rv (hR h a k)
/-- kinds: 1 the script; 2 int[], 3 long[], 4 boolean[], 5 int[][], 6 long[][]; 10 + c an object of class c -/
def ak (kd : Nat) : Option FieldType := match kd with
  | 2 => some .int
  | 3 => some .long
  | 4 => some .boolean
  | 5 => some (.array .int)
  | 6 => some (.array .long)
  | _ => none
def tyL : List (Nat → FieldType) := [tyX0, tyX1, tyX2, tyX3, tyX4, tyX5, tyX6]
/-- the cell a of the real heap is what the planes say -/
def cR (D : va_G) (base : Nat) (s : State) (h : PH) (H : Heap) (a : Nat) : Prop :=
  (hK h a = 1 → va_X a (hL h a) (hI h a) s H) ∧
  (∀ ty, ak (hK h a) = some ty → base ≤ a ∧ ∃ cA : ClassId, H[a]? = some (arrV cA (hL h a) (fun j => fv ty h a j)) ∧ ArrOfT s cA ty) ∧
  (∀ (c : Nat) (q : vw_C) (t : Nat → FieldType), hK h a = 10 + c → vwCl[c]? = some q → tyL[c]? = some t → base ≤ a ∧ t_OB a (D.1 c) q.2.2 (D.2 c) H (fun k => fv (t k) h a k))
def isNest : Cond → Bool
  | .methodLinkNest _ _ _ _ => true
  | _ => false
/-- the tables' words at a state -/
def TB (D : va_G) (s : State) : Prop :=
  (∀ w ∈ lw_tbl, goodWord w = true → ∀ A : Array Value, w.before A s = true) ∧ (∀ w ∈ lw_tbl, isNest w = true → w.before #[] s = true) ∧
  (∀ (ty : FieldType) (A : Array Value), ty = .int ∨ ty = .long → (Cond.arrayOver (.array ty)).before A s = true) ∧ va_K D vwCl [] s
/-- a method: name, bytes, locals, answer, frames and locals' words below it -/
abbrev MI : Type := MethodName × ByteArray × Nat × Option FieldType × Nat × Nat
/-- launch, classes' numbers, first own address -/
abbrev GG : Type := Launch × va_G × Nat
def MC (G : GG) (nc ns : Nat) (y : MI) (p : Program) (R : Room) (s : State) (m : MethodId) (meth : Method) (c : Code) (c0 s0 : Nat) : Prop :=
  p.tables.exec = Jvm.exec ∧ c.code = y.2.1 ∧ c.maxLocals = y.2.2.1 ∧ s.vm.findClass y.1.cls = some m.cls ∧ TB G.2.1 s ∧ meth.name = y.1.name ∧ meth.sig.returnType = y.2.2.2.1 ∧ meth.locks = false ∧
  y.2.2.2.2.1 ≤ R.frames ∧ y.2.2.2.2.2 ≤ R.locals ∧ nc ≤ R.cells + c0 ∧ ns ≤ R.slots + s0
/-- heap and planes agree -/
def HP (G : GG) (s : State) (h : PH) (H : Heap) : Prop := H.size = hN h ∧ (∀ a, hN h ≤ a → hK h a = 0) ∧ (∀ a, cR G.2.1 G.2.2 s h H a) ∧ G.2.2 ≤ hN h
/-- the room is kept; writes are to own cells -/
def RM (G : GG) (nc ns : Nat) (h : PH) (locs : List Loc) (cells slots c0 s0 : Nat) : Prop :=
  hN h ≤ nc ∧ hS h ≤ ns ∧ cells + c0 = hN h ∧ slots + s0 = hS h ∧ ∀ q ∈ locs, G.2.2 ≤ q.base
/-- the locals hold what the list says -/
def lL (ls : Array Slot) (n : Nat) (L : List (Option Value)) : Prop := ls.size = n ∧ lv_wf ls ∧ ∀ (i : Nat) (v : Value), L[i]? = some (some v) → ls[i]? = some (.val v)
/-- at a return with this answer -/
def RA (y : MI) (pc : Nat) (S : List Value) (v : Option Value) : Prop :=
  (decode y.2.1 pc = .ok (.return_, 1) ∧ S = [] ∧ v = none ∧ y.2.2.2.1 = none) ∨
  (∃ x : Int32, decode y.2.1 pc = .ok (.ireturn, 1) ∧ S = [.int x] ∧ v = some (.int x) ∧ (y.2.2.2.1 = some .int ∨ (y.2.2.2.1 = some .boolean ∧ (x = 0 ∨ x = 1)))) ∨
  (∃ x : Int64, decode y.2.1 pc = .ok (.lreturn, 1) ∧ S = [.long x] ∧ v = some (.long x) ∧ y.2.2.2.1 = some .long)
def RR (G : GG) (nc ns : Nat) (y : MI) (pc : Nat) (L : List (Option Value)) (S : List Value) (h : PH) (Z : Option Value → PH → Prop) : Prop :=
  ∀ (p : Program) (e : Env) (R : Room) (s : State) (m : MethodId) (args : Array Value) (below : List Frame) (meth : Method) (c : Code) (H : Heap) (locs : List Loc) (cells slots c0 s0 : Nat) (ls : Array Slot) (Q : State → Prop),
    MC G nc ns y p R s m meth c c0 s0 → HP G s h H → RM G nc ns h locs cells slots c0 s0 → lL ls y.2.2.1 L →
    (∀ (pc' : Nat) (ls' : Array Slot) (S' : List Value) (h' : PH) (H' : Heap) (locs' : List Loc) (cells' slots' : Nat) (v : Option Value), RA y pc' S' v → Z v h' → HP G s h' H' → RM G nc ns h' locs' cells' slots' c0 s0 →
      W p G.1 e R s m args below meth c H' locs' cells' slots' Q (F0 m pc' ls' S')) →
    W p G.1 e R s m args below meth c H locs cells slots Q (F0 m pc ls S)
/-- a call of y with these arguments on these planes: it returns, Z holds of answer and planes, mc cells of ms slots are new -/
def Ev (G : GG) (y : MI) (As : List Value) (h : PH) (mc ms : Nat) (Z : Option Value → PH → Prop) : Prop :=
  Met G.1 y.1 [Cond.code y.1 y.2.1 y.2.2.1 y.2.2.2.1] { frames := y.2.2.2.2.1, cells := mc, slots := ms, locals := y.2.2.2.2.2 }
    (va_Pc As (fun U => HP G U h U.heap ∧ TB G.2.1 U))
    (fun _ _ oc t => ∃ (v : Option Value) (h' : PH), oc = .returned v ∧ Z v h' ∧ hN h' = hN h + mc ∧ hS h' = hS h + ms ∧ HP G t h' t.heap)
    mc ms (fun q => G.2.2 ≤ q)
/-- arguments as locals -/
def pL : List Value → List (Option Value)
  | [] => []
  | v :: vs => if v.category = 2 then some v :: none :: pL vs else some v :: pL vs
def kl (L : List (Option Value)) (i : Nat) : List (Option Value) := match i with
  | 0 => L
  | j + 1 => match L[j]? with
    | some (some v) => if v.category = 2 then L.set j none else L
    | _ => L
def st1 (L : List (Option Value)) (i : Nat) (v : Value) : List (Option Value) := (kl L i).set i (some v)
def st2 (L : List (Option Value)) (i : Nat) (v : Value) : List (Option Value) := ((kl L i).set i (some v)).set (i + 1) none
section MTX
theorem TB.moved {D : va_G} {s U : State} (hW : s.WarmedH U.vm) (h : TB D s) : TB D U := by
  obtain ⟨h1, h2, h3, h4⟩ := h
  refine ⟨fun w hw hg A => word_at hW (good_of_word hg) (h1 w hw hg A), fun w hw hg => ?_, ?_, va_K.moved hW.alike h4⟩
  · have h9 := h2 w hw hg
    cases w with
    | methodLinkNest a i x b => exact va_Nw.warmM hW h9
    | _ => cases hg
  · exact fun ty A hty => over_moved hW.alike (h3 ty A hty)
theorem cR.moved {D : va_G} {base : Nat} {s U : State} {h : PH} {H : Heap} {a : Nat} (hW : s.vm.Alike U.vm) (hc : cR D base s h H a) : cR D base U h H a := by
  obtain ⟨h1, h2, h3⟩ := hc
  refine ⟨fun hk => ?_, fun ty hk => ?_, h3⟩
  · obtain ⟨scr, q1, q2, q3⟩ := h1 hk
    exact ⟨scr, q1, State.isArrayOf_alike hW q2, q3⟩
  · obtain ⟨q1, cA, q2, q3⟩ := h2 ty hk
    exact ⟨q1, cA, q2, arrOfT_moved hW q3⟩
theorem HP.moved {G : GG} {s U : State} {h : PH} {H : Heap} (hW : s.vm.Alike U.vm) (hp : HP G s h H) : HP G U h H := ⟨hp.1, hp.2.1, fun a => (hp.2.2.1 a).moved hW, hp.2.2.2⟩
theorem RR.mono {G : GG} {nc ns : Nat} {y : MI} {pc : Nat} {L L' : List (Option Value)} {S : List Value} {h : PH} {Z Z' : Option Value → PH → Prop} (k : RR G nc ns y pc L' S h Z') (hL : ∀ (i : Nat) (v : Value), L'[i]? = some (some v) → L[i]? = some (some v)) (hZ : ∀ v h', Z' v h' → Z v h') : RR G nc ns y pc L S h Z := by
  intro p e R s m args below meth c H locs cells slots c0 s0 ls Q M hp hm hl hr
  exact k p e R s m args below meth c H locs cells slots c0 s0 ls Q M hp hm ⟨hl.1, hl.2.1, fun i v hi => hl.2.2 i v (hL i v hi)⟩ (fun pc' ls' S' h' H' locs' cells' slots' v a b => hr pc' ls' S' h' H' locs' cells' slots' v a (hZ v h' b))
end MTX
