/-- the reference at y: field, offset of its row, kind, length -/
def mtab : List (Nat × Nat × Nat × Nat) := [(2, 1, 4, 2500), (5, 2, 2, 50), (6, 3, 2, 50), (7, 4, 4, 50), (8, 5, 4, 50), (9, 6, 2, 50), (10, 7, 2, 50), (11, 8, 2, 50), (12, 9, 4, 2500), (16, 10, 3, 65536), (18, 11, 4, 2500), (21, 12, 2, 40), (22, 13, 2, 40), (23, 14, 2, 40), (24, 15, 4, 40), (25, 16, 4, 40), (26, 17, 4, 40), (27, 18, 4, 2500), (30, 19, 4, 50), (31, 20, 4, 50), (32, 21, 2, 50), (33, 22, 2, 50), (34, 23, 2, 50), (35, 24, 2, 50), (36, 25, 2, 50), (37, 26, 2, 50)]
def ML (h : PH) (y : Nat) : Prop := hK h y = 16 ∧ 0 < y ∧ ∀ e, e ∈ mtab → hR h y e.1 = y + e.2.1 ∧ hK h (y + e.2.1) = e.2.2.1 ∧ hL h (y + e.2.1) = e.2.2.2
theorem ML.r {h : PH} {y : Nat} (hm : ML h y) (s o k l : Nat) (hi : (s, o, k, l) ∈ mtab) : hR h y s = y + o ∧ hK h (y + o) = k ∧ hL h (y + o) = l := hm.2.2 (s, o, k, l) hi
/-- of the reference only the rows S and the fields D may have changed -/
def EO (y : Nat) (S D : List Nat) (h h' : PH) : Prop := hK h' = hK h ∧ hL h' = hL h ∧ hR h' = hR h ∧ hN h' = hN h ∧ hS h' = hS h ∧ (∀ a, ¬ (y ≤ a ∧ a < y + 27) → (∀ j, hI h' a j = hI h a j) ∧ ∀ j, hJ h' a j = hJ h a j) ∧
  (∀ o, 0 < o → o < 27 → o ∉ S → (∀ j, hI h' (y + o) j = hI h (y + o) j) ∧ ∀ j, hJ h' (y + o) j = hJ h (y + o) j) ∧ ∀ j, j ∉ D → hI h' y j = hI h y j ∧ hJ h' y j = hJ h y j
variable {G : GG} {h h' : PH} {y n m : Nat} {S D : List Nat} {A : Nat → Nat → Bool} {mt : Nat → Nat → Option Nat} {op : Nat → Nat → Bool}
theorem EO.rf : EO y S D h h := ⟨rfl, rfl, rfl, rfl, rfl, fun _ _ => ⟨fun _ => rfl, fun _ => rfl⟩, fun _ _ _ _ => ⟨fun _ => rfl, fun _ => rfl⟩, fun _ _ => ⟨rfl, rfl⟩⟩
theorem EO.trans {h1 : PH} (a : EO y S D h h1) (b : EO y S D h1 h') : EO y S D h h' := by
  obtain ⟨a1, a2, a3, a4, a5, a6, a7, a8⟩ := a
  obtain ⟨b1, b2, b3, b4, b5, b6, b7, b8⟩ := b
  exact ⟨b1.trans a1, b2.trans a2, b3.trans a3, b4.trans a4, b5.trans a5, fun c hc => ⟨fun j => ((b6 c hc).1 j).trans ((a6 c hc).1 j), fun j => ((b6 c hc).2 j).trans ((a6 c hc).2 j)⟩, fun o h1 h2 h3 => ⟨fun j => ((b7 o h1 h2 h3).1 j).trans ((a7 o h1 h2 h3).1 j), fun j => ((b7 o h1 h2 h3).2 j).trans ((a7 o h1 h2 h3).2 j)⟩, fun j hj => ⟨(b8 j hj).1.trans (a8 j hj).1, (b8 j hj).2.trans (a8 j hj).2⟩⟩
theorem EO.wide {S' D' : List Nat} (a : EO y S D h h') (h1 : ∀ o, o ∈ S → o ∈ S') (h2 : ∀ o, o ∈ D → o ∈ D') : EO y S' D' h h' := by
  obtain ⟨a1, a2, a3, a4, a5, a6, a7, a8⟩ := a
  exact ⟨a1, a2, a3, a4, a5, a6, fun o q1 q2 q3 => a7 o q1 q2 (fun z => q3 (h1 o z)), fun j hj => a8 j (fun z => hj (h2 j z))⟩
theorem EO.cI {o k : Nat} {v : Int32} (h0 : 0 < o) (h27 : o < 27) (ho : o ∈ S) : EO y S D h (sI h (y + o) k v) :=
  ⟨rfl, rfl, rfl, rfl, rfl, fun a ha => ⟨fun j => sI_ne (by omega), fun _ => rfl⟩, fun o' _ _ q3 => ⟨fun j => sI_ne (fun e => q3 ((show o' = o by omega) ▸ ho)), fun _ => rfl⟩, fun j _ => ⟨sI_ne (by omega), rfl⟩⟩
theorem EO.cJ {o k : Nat} {v : Int64} (h0 : 0 < o) (h27 : o < 27) (ho : o ∈ S) : EO y S D h (sJ h (y + o) k v) :=
  ⟨rfl, rfl, rfl, rfl, rfl, fun a ha => ⟨fun _ => rfl, fun j => sJ_ne (by omega)⟩, fun o' _ _ q3 => ⟨fun _ => rfl, fun j => sJ_ne (fun e => q3 ((show o' = o by omega) ▸ ho))⟩, fun j _ => ⟨rfl, sJ_ne (by omega)⟩⟩
theorem EO.s0 {k : Nat} {v : Int32} (hk : k ∈ D) : EO y S D h (sI h y k v) :=
  ⟨rfl, rfl, rfl, rfl, rfl, fun a ha => ⟨fun j => sI_ne (by omega), fun _ => rfl⟩, fun o' _ _ q3 => ⟨fun j => sI_ne (by omega), fun _ => rfl⟩, fun j hj => ⟨sI_nk (fun e => hj (by rw [e]; exact hk)), rfl⟩⟩
theorem EO.s0J {k : Nat} {v : Int64} (hk : k ∈ D) : EO y S D h (sJ h y k v) :=
  ⟨rfl, rfl, rfl, rfl, rfl, fun a ha => ⟨fun _ => rfl, fun j => sJ_ne (by omega)⟩, fun o' _ _ q3 => ⟨fun _ => rfl, fun j => sJ_ne (by omega)⟩, fun j hj => ⟨rfl, sJ_nk (fun e => hj (by rw [e]; exact hk))⟩⟩
theorem EO.so (a : EO y S D h h') : SO y (y + 27) h h' := ⟨a.1, a.2.1, a.2.2.1, a.2.2.2.1, a.2.2.2.2.1, a.2.2.2.2.2.1⟩
theorem EO.i (a : EO y S D h h') (o : Nat) (h0 : (decide (0 < o) && decide (o < 27) && decide (o ∉ S)) = true) (j : Nat) : hI h' (y + o) j = hI h (y + o) j := by
  rw [Bool.and_eq_true, Bool.and_eq_true, decide_eq_true_iff, decide_eq_true_iff, decide_eq_true_iff] at h0
  exact (a.2.2.2.2.2.2.1 o h0.1.1 h0.1.2 h0.2).1 j
theorem EO.j (a : EO y S D h h') (o : Nat) (h0 : (decide (0 < o) && decide (o < 27) && decide (o ∉ S)) = true) (j : Nat) : hJ h' (y + o) j = hJ h (y + o) j := by
  rw [Bool.and_eq_true, Bool.and_eq_true, decide_eq_true_iff, decide_eq_true_iff, decide_eq_true_iff] at h0
  exact (a.2.2.2.2.2.2.1 o h0.1.1 h0.1.2 h0.2).2 j
theorem EO.f (a : EO y S D h h') (j : Nat) (h0 : j ∉ D) : hI h' y j = hI h y j := (a.2.2.2.2.2.2.2 j h0).1
theorem EO.fJ (a : EO y S D h h') (j : Nat) (h0 : j ∉ D) : hJ h' y j = hJ h y j := (a.2.2.2.2.2.2.2 j h0).2
theorem ML.eo (hm : ML h y) (a : EO y S D h h') : ML h' y := by
  obtain ⟨a1, a2, a3, -⟩ := a
  unfold ML at *
  rw [a1, a2, a3]; exact hm
/-- a partner as the reference writes it -/
def e1 (o : Option Nat) : Int32 := match o with
  | none => -1
  | some r => nI r
theorem e1_ge {o : Option Nat} (h : ∀ r, o = some r → r < 2 ^ 31) : 0 ≤ e1 o ↔ o.isSome = true := by
  cases o with
  | none => exact ⟨fun z => absurd z (by decide), fun z => (by cases z)⟩
  | some r => exact ⟨fun _ => rfl, fun _ => nI_pos' (h r rfl)⟩
theorem e1_lt {o : Option Nat} (h : ∀ r, o = some r → r < 2 ^ 31) : e1 o < 0 ↔ o = none := by
  cases o with
  | none => exact ⟨fun _ => rfl, fun _ => by decide⟩
  | some r => exact ⟨fun z => absurd z (nI_pos (h r rfl)), fun z => (by cases z)⟩
def EN (h : PH) (y n m : Nat) : Prop := hI h y 28 = nI n ∧ hI h y 29 = nI m ∧ n ≤ 50 ∧ m ≤ 50
def EE (h : PH) (y n m : Nat) (A : Nat → Nat → Bool) : Prop := (∀ l r, l < 50 → r < 50 → hI h (y + 18) (50 * l + r) = b2i (A l r)) ∧ Rg n m A
def EQ (h : PH) (y n m : Nat) (op : Nat → Nat → Bool) : Prop := (∀ i, i < 50 → hI h (y + 19) i = b2i (!op 0 i) ∧ hI h (y + 20) i = b2i (!op 1 i)) ∧ (∀ i, op 0 i = true → i < n) ∧ ∀ i, op 1 i = true → i < m
def EM (h : PH) (y : Nat) (mt : Nat → Nat → Option Nat) : Prop := (∀ i, i < 50 → hI h (y + 21) i = e1 (mt 0 i) ∧ hI h (y + 22) i = e1 (mt 1 i)) ∧ ∀ s i j, s < 2 → mt s i = some j → i < 50 ∧ j < 50
theorem EM.set {l r : Nat} (hp : EM h y mt) (hl : l < 50) (hr : r < 50) : EM (sI (sI h (y + 21) l (nI r)) (y + 22) r (nI l)) y (pairM mt l r) := by
  refine ⟨fun i hi => ⟨?_, ?_⟩, fun s i j hs e => ?_⟩
  · rw [sI_ne (by omega), hI_sI]
    by_cases q : i = l
    · rw [if_pos ⟨rfl, q⟩, q, pairM_00]; rfl
    · rw [if_neg (fun z => q z.2), pairM_0 q]; exact (hp.1 i hi).1
  · rw [hI_sI]
    by_cases q : i = r
    · rw [if_pos ⟨rfl, q⟩, q, pairM_11]; rfl
    · rw [if_neg (fun z => q z.2), pairM_1 q, sI_ne (by omega)]; exact (hp.1 i hi).2
  · rcases (by omega : s = 0 ∨ s = 1) with z | z
    · subst z
      by_cases q : i = l
      · rw [q, pairM_00] at e; cases e; exact ⟨by omega, hr⟩
      · rw [pairM_0 q] at e; exact hp.2 0 i j (by decide) e
    · subst z
      by_cases q : i = r
      · rw [q, pairM_11] at e; cases e; exact ⟨by omega, hl⟩
      · rw [pairM_1 q] at e; exact hp.2 1 i j (by decide) e
def Grown (h : PH) (y n : Nat) (A : Nat → Nat → Bool) (mt : Nat → Nat → Option Nat) (op : Nat → Nat → Bool) (h' : PH) : Prop :=
  ∃ mt', EM h' y mt' ∧ IsM A (mt' 0) (mt' 1) ∧ (∀ l b, mt' 0 l = some b → op 0 l = op 1 b) ∧ siz n (mt' 0) = siz n (mt 0) + 1 ∧ ∀ s i, s < 2 → op s i = false → mt' s i = mt s i
theorem fl_loop {nc ns : Nat} {Z : Option Value → PH → Prop} {tail : Nat} {q : Nat → Nat} {C : Nat → Nat → Prop} (hm : ML h y) (hA : Rg n m A) (hn : n ≤ 50) (hm5 : m ≤ 50) (qi : ∀ i j, i < tail → j < tail → q i = q j → i = j) (hqo : ∀ i, i < tail → op 0 (q i) = true)
    (C1 : ∀ b j, C b j → j < tail ∧ hI h (y + 26) b = nI (q j) ∧ A (q j) b = true ∧ op 1 b = true) (C2 : ∀ j, j < tail → mt 0 (q j) = none ∨ ∃ b j', mt 0 (q j) = some b ∧ C b j' ∧ j' < j)
    (hz : ∀ h1, EO y [21, 22] [] h h1 → Grown h y n A mt op h1 → Z none h1) (e0 : Int32) : ∀ (d j r : Nat) (mc : Nat → Nat → Option Nat) (h1 : PH), j < d → C r j → EO y [21, 22] [] h h1 → EM h1 y mc → IsX A op mc r → (∀ i, i ≤ j → mc 0 (q i) = mt 0 (q i)) → siz n (mc 0) = siz n (mt 0) → (∀ s i, s < 2 → op s i = false → mc s i = mt s i) →
    RR G nc ns m_X6_flip 2 [some (.ref y), some (.int e0), some (.int (nI r)), none, none] [] h1 Z := by
  obtain ⟨r37, k37, l37⟩ := hm.r 37 26 2 50 (by decide)
  obtain ⟨r32, k32, l32⟩ := hm.r 32 21 2 50 (by decide)
  obtain ⟨r33, k33, l33⟩ := hm.r 33 22 2 50 (by decide)
  have y0 := hm.2.1
  intro d
  induction d with
  | zero => intro j _ _ _ hj; omega
  | succ d ih =>
    intro j r mc h1 hj hC eo hp hx hmc hsz hcl
    obtain ⟨c1, c3, c4, c5⟩ := C1 r j hC
    obtain ⟨o1, o2, o3, -⟩ := id eo
    have hql := hA (q j) r c4
    have cf : hI h1 (y + 26) r = nI (q j) := by rw [eo.i 26 rfl]; exact c3
    have cr : Int32.toNatClampNeg (nI r) = r := nI_clamp (by omega)
    have cq : Int32.toNatClampNeg (nI (q j)) = q j := nI_clamp (by omega)
    have ecf : hI h1 (hR h1 y 37) (Int32.toNatClampNeg (nI r)) = nI (q j) := by rw [o3, r37, cr]; exact cf
    have hop := hqo j c1
    have emt : hI h1 (y + 21) (q j) = e1 (mt 0 (q j)) := by rw [(hp.1 (q j) (by omega)).1, hmc j (Nat.le_refl _)]
    refine s_X6_flip_2 (fun z => absurd z (nI_pos (by omega))) (by rw [o1]; exact hm.1) (by rw [o3, r37]; omega) (by rw [o1, o3, r37]; exact k37) (fun _ => by rw [o2, o3, r37, l37]; exact vp_in_nI (by omega) (by decide)) (by rw [o3, r32]; omega) (by rw [o1, o3, r32]; exact k32) (fun _ => by rw [ecf, o2, o3, r32, l32]; exact vp_in_nI (by omega) (by decide)) (by rw [o3, r33]; omega) (by rw [o1, o3, r33]; exact k33) (fun _ => by rw [o2, o3, r33, l33]; exact vp_in_nI (by omega) (by decide)) (fun _ => ?_)
    rw [ecf, o3, r32, r33, cr, cq, emt]
    have hp2 := hp.set (l := q j) (r := r) (by omega) (by omega)
    have eo2 : EO y [21, 22] [] h (sI (sI h1 (y + 21) (q j) (nI r)) (y + 22) r (nI (q j))) := (eo.trans (EO.cI (by decide) (by decide) (by decide))).trans (EO.cI (by decide) (by decide) (by decide))
    have hcl2 : ∀ s i, s < 2 → op s i = false → pairM mc (q j) r s i = mt s i := fun s i hs ho => by
      rw [← hcl s i hs ho]
      match s, hs with
      | 0, _ => exact pairM_0 (fun e => by rw [e, hop] at ho; cases ho)
      | 1, _ => exact pairM_1 (fun e => by rw [e, c5] at ho; cases ho)
    generalize (sI (sI h1 (y + 21) (q j) (nI r)) (y + 22) r (nI (q j))) = h2 at hp2 eo2 ⊢
    rcases C2 j c1 with hn0 | ⟨b, j', hb, hCb, hj'⟩
    · have hmn : mc 0 (q j) = none := by rw [hmc j (Nat.le_refl _)]; exact hn0
      obtain ⟨f1, f2⟩ := hx.fin c4 (by rw [hop, c5]) hmn
      have hfin : Grown h y n A mt op h2 := ⟨pairM mc (q j) r, hp2, f1, f2, by rw [pairM_fun, siz_up_some hql.1 hmn, hsz], hcl2⟩
      obtain ⟨w1, w2, w3, -⟩ := id eo2
      rw [hn0, show e1 none = -1 from rfl]
      have no : ¬ ((-1 : Int32) < 0) → False := fun z => z (by decide)
      exact s_X6_flip_2 (fun _ => hz h2 eo2 hfin) (by rw [w1]; exact hm.1) (by rw [w3, r37]; omega) (by rw [w1, w3, r37]; exact k37) (fun z => (no z).elim) (by rw [w3, r32]; omega) (by rw [w1, w3, r32]; exact k32) (fun z => (no z).elim) (by rw [w3, r33]; omega) (by rw [w1, w3, r33]; exact k33) (fun z => (no z).elim) (fun z => (no z).elim)
    · have hbm : mc 0 (q j) = some b := by rw [hmc j (Nat.le_refl _)]; exact hb
      rw [hb, show e1 (some b) = nI b from rfl]
      refine ih j' b (pairM mc (q j) r) h2 (by omega) hCb eo2 hp2 (hx.go c4 (by rw [hop, c5]) hbm) (fun i hi => ?_) ?_ hcl2
      · rw [pairM_0 (fun e => by have := qi i j (by omega) c1 e; omega)]
        exact hmc i (by omega)
      · rw [pairM_fun, siz_up_same (by rw [hbm]; rfl)]; exact hsz
theorem m_flip {tail : Nat} {q : Nat → Nat} {C : Nat → Nat → Prop} {r j : Nat} (hm : ML h y) (hA : Rg n m A) (hn : n ≤ 50) (hm5 : m ≤ 50) (hp : EM h y mt) (hM : IsM A (mt 0) (mt 1)) (hoc : ∀ l b, mt 0 l = some b → op 0 l = op 1 b) (qi : ∀ i j, i < tail → j < tail → q i = q j → i = j) (hqo : ∀ i, i < tail → op 0 (q i) = true)
    (C1 : ∀ b j, C b j → j < tail ∧ hI h (y + 26) b = nI (q j) ∧ A (q j) b = true ∧ op 1 b = true) (C2 : ∀ j, j < tail → mt 0 (q j) = none ∨ ∃ b j', mt 0 (q j) = some b ∧ C b j' ∧ j' < j) (hC : C r j) (hr : mt 1 r = none) :
    Ev G m_X6_flip [.ref y, .int (nI r)] h 0 0 (RV (fun h' => EO y [21, 22] [] h h' ∧ Grown h y n A mt op h')) := by
  refine Ev.of pn_X6_flip (Nat.le_of_ble_eq_true rfl) ?_
  refine s_X6_flip_0 ?_
  have hj := (C1 r j hC).1
  refine fl_loop (G := G) hm hA hn hm5 qi hqo C1 C2 (fun h1 eo lg => ⟨⟨rfl, eo, lg⟩, eo.2.2.2.1, eo.2.2.2.2.1⟩) (nI r) (j + 1) j r mt h (by omega) hC EO.rf hp ⟨fun l b _ => hM.1 l b, fun l e => ?_, hM.2, hoc⟩ (fun _ _ => rfl) rfl (fun _ _ _ _ => rfl)
  rw [(hM.1 l r).mp e] at hr; cases hr
