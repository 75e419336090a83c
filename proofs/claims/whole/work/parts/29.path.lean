section PATH
variable {G : GG} {h : PH} {p g m : Nat} {sz : Nat → Nat} {E : Nat → Nat → Bool} {mt : Nat → Nat → Option Nat} {op : Nat → Nat → Bool}
/-- partners are told alike on both sides, but that r has none yet -/
def IsX (E : Nat → Nat → Bool) (op : Nat → Nat → Bool) (mt : Nat → Nat → Option Nat) (r : Nat) : Prop :=
  (∀ l b, b ≠ r → (mt 0 l = some b ↔ mt 1 b = some l)) ∧ (∀ l, mt 0 l ≠ some r) ∧ (∀ l b, mt 0 l = some b → E l b = true) ∧ ∀ l b, mt 0 l = some b → op 0 l = op 1 b
theorem pairM_00 {l r : Nat} : pairM mt l r 0 l = some r := if_pos ⟨rfl, rfl⟩
theorem pairM_0 {l r i : Nat} (hi : i ≠ l) : pairM mt l r 0 i = mt 0 i := by
  unfold pairM
  rw [if_neg (fun z => hi z.2), if_neg (fun z => absurd z.1 (by decide))]
theorem pairM_11 {l r : Nat} : pairM mt l r 1 r = some l := by
  unfold pairM
  rw [if_neg (fun z => absurd z.1 (by decide)), if_pos ⟨rfl, rfl⟩]
theorem pairM_1 {l r i : Nat} (hi : i ≠ r) : pairM mt l r 1 i = mt 1 i := by
  unfold pairM
  rw [if_neg (fun z => absurd z.1 (by decide)), if_neg (fun z => hi z.2)]
theorem pairM_fun {l r : Nat} : pairM mt l r 0 = up (mt 0) l (some r) := by
  funext i
  by_cases e : i = l
  · subst e; rw [pairM_00, up_eq]
  · rw [pairM_0 e, up_ne e]
/-- the step of a path whose left node had a partner -/
theorem IsX.go {l r b : Nat} (hx : IsX E op mt r) (hE : E l r = true) (ho : op 0 l = op 1 r) (hb : mt 0 l = some b) : IsX E op (pairM mt l r) b := by
  obtain ⟨x1, x2, x3, x4⟩ := hx
  have hbr : b ≠ r := fun e => x2 l (e ▸ hb)
  have hb1 := (x1 l b hbr).mp hb
  refine ⟨fun l2 b2 hb2 => ?_, fun l2 => ?_, fun l2 b2 z => ?_, fun l2 b2 z => ?_⟩
  · by_cases e1 : l2 = l
    · subst e1
      rw [pairM_00]
      by_cases e2 : b2 = r
      · subst e2; rw [pairM_11]; simp
      · rw [pairM_1 e2]
        constructor
        · intro z; cases z; exact absurd rfl e2
        · intro z
          have := (x1 l2 b2 e2).mpr z
          rw [hb] at this
          cases this; exact absurd rfl hb2
    · rw [pairM_0 e1]
      by_cases e2 : b2 = r
      · subst e2
        rw [pairM_11]
        constructor
        · intro z; exact absurd z (x2 l2)
        · intro z; cases z; exact absurd rfl e1
      · rw [pairM_1 e2]; exact x1 l2 b2 e2
  · by_cases e1 : l2 = l
    · subst e1; rw [pairM_00]; intro z; cases z; exact hbr rfl
    · rw [pairM_0 e1]
      intro z
      have := (x1 l2 b hbr).mp z
      rw [hb1] at this
      cases this; exact e1 rfl
  · by_cases e1 : l2 = l
    · subst e1; rw [pairM_00] at z; cases z; exact hE
    · rw [pairM_0 e1] at z; exact x3 l2 b2 z
  · by_cases e1 : l2 = l
    · subst e1; rw [pairM_00] at z; cases z; exact ho
    · rw [pairM_0 e1] at z; exact x4 l2 b2 z
/-- its last step -/
theorem IsX.fin {l r : Nat} (hx : IsX E op mt r) (hE : E l r = true) (ho : op 0 l = op 1 r) (hb : mt 0 l = none) : IsM E (pairM mt l r 0) (pairM mt l r 1) ∧ ∀ a b, pairM mt l r 0 a = some b → op 0 a = op 1 b := by
  obtain ⟨x1, x2, x3, x4⟩ := hx
  refine ⟨⟨fun l2 b2 => ?_, fun l2 b2 z => ?_⟩, fun l2 b2 z => ?_⟩
  · by_cases e1 : l2 = l
    · subst e1
      rw [pairM_00]
      by_cases e2 : b2 = r
      · subst e2; rw [pairM_11]; simp
      · rw [pairM_1 e2]
        constructor
        · intro z; cases z; exact absurd rfl e2
        · intro z
          have := (x1 l2 b2 e2).mpr z
          rw [hb] at this; cases this
    · rw [pairM_0 e1]
      by_cases e2 : b2 = r
      · subst e2
        rw [pairM_11]
        constructor
        · intro z; exact absurd z (x2 l2)
        · intro z; cases z; exact absurd rfl e1
      · rw [pairM_1 e2]; exact x1 l2 b2 e2
  · by_cases e1 : l2 = l
    · subst e1; rw [pairM_00] at z; cases z; exact hE
    · rw [pairM_0 e1] at z; exact x3 l2 b2 z
  · by_cases e1 : l2 = l
    · subst e1; rw [pairM_00] at z; cases z; exact ho
    · rw [pairM_0 e1] at z; exact x4 l2 b2 z
/-- the end of a lengthening: one pair more among the open nodes -/
def Longer (h : PH) (p m n : Nat) (E : Nat → Nat → Bool) (mt : Nat → Nat → Option Nat) (op : Nat → Nat → Bool) (h' : PH) : Prop :=
  ∃ mt', PS h' p m mt' op ∧ IsM E (mt' 0) (mt' 1) ∧ (∀ l b, mt' 0 l = some b → op 0 l = op 1 b) ∧ siz n (mt' 0) = siz n (mt 0) + 1 ∧ ∀ s i, s < 2 → op s i = false → mt' s i = mt s i
theorem pp_loop {nc ns : Nat} {Z : Option Value → PH → Prop} {tail : Nat} {q : Nat → Nat} {C : Nat → Nat → Prop} (hg : GS h g m sz E) (hl : PL h p g m) (qi : ∀ i j, i < tail → j < tail → q i = q j → i = j) (hqo : ∀ i, i < tail → op 0 (q i) = true) (htm : tail ≤ m)
    (C1 : ∀ b j, C b j → j < tail ∧ b < m ∧ hI h (p + 10) b = nI (q j) ∧ E (q j) b = true ∧ op 1 b = true) (C2 : ∀ j, j < tail → mt 0 (q j) = none ∨ ∃ b j', mt 0 (q j) = some b ∧ C b j' ∧ j' < j)
    (hz : ∀ h1, SO (p + 2) (p + 5) h h1 → Longer h p m (sz 0) E mt op h1 → Z none h1) (e0 : Int32) : ∀ (d j t r : Nat) (mc : Nat → Nat → Option Nat) (h1 : PH), j < d → t + (j + 1) ≤ m → C r j → SO (p + 2) (p + 5) h h1 → PS h1 p m mc op → IsX E op mc r → (∀ i, i ≤ j → mc 0 (q i) = mt 0 (q i)) → siz (sz 0) (mc 0) = siz (sz 0) (mt 0) → (∀ s i, s < 2 → op s i = false → mc s i = mt s i) →
    RR G nc ns m_X3_pairAlongPath 4 [some (.ref p), some (.int e0), some (.int (nI r)), some (.int (nI t)), none, none] [] h1 Z := by
  have hl' := hl
  obtain ⟨k0, r0, r1, r2, r3, r4, r5, r6, k1, n1, ks, kp, ko, kt, kts, kq, kc, hm, g0, gp⟩ := hl
  obtain ⟨a1, a2, a3⟩ := ks 0 (by decide)
  intro d
  induction d with
  | zero => intro j _ _ _ _ hj; omega
  | succ d ih =>
    intro j t r mc h1 hj ht hC so hp hx hmc hsz hcl
    obtain ⟨c1, c2, c3, c4, c5⟩ := C1 r j hC
    obtain ⟨o1, o2, o3, o4, o5, o6⟩ := id so
    have hql := (hg.2.2.2 (q j) r c4).1
    have hqm : q j < m := by have := (hg.2.1 0 (by decide)).2; omega
    have hg1 : GS h1 g m sz E := hg.so so (by omega)
    have hl1 := hl'.so so
    have cf : hI h1 (p + 10) r = nI (q j) := by rw [(o6 (p + 10) (by omega)).1]; exact c3
    have cr : Int32.toNatClampNeg (nI r) = r := nI_clamp (by omega)
    have cq : Int32.toNatClampNeg (nI (q j)) = q j := nI_clamp (by omega)
    have ecf : hI h1 (hR h1 p 6) (Int32.toNatClampNeg (nI r)) = nI (q j) := by rw [o3, r6, cr]; exact cf
    have emt : hI h1 (hR h1 (hR h1 p 1) 0) (Int32.toNatClampNeg (nI (q j))) = enc (mt 0 (q j)) := by
      rw [o3, r1, a3, cq, hp.1 0 (by decide) (q j) hqm, hmc j (Nat.le_refl _)]
    have hop := hqo j c1
    have e3 : Ev G m_X1_most [.ref (hR h1 p 0)] h1 0 0 (Ret (some (.int (nI m))) h1) := by rw [o3, r0]; exact ev_most hg1.1
    have rne : ¬ nI r = -3 := fun e => by
      have e2 := nI_toInt (n := r) (by omega)
      rw [e, show (-3 : Int32).toInt = -3 by decide] at e2; omega
    refine s_X3_pairAlongPath_4 (x1 := nI m) (by rw [o1]; exact k0) (by rw [o3, r0]; omega) e3 (by rw [o1, o3, r0]; exact hg.1.1) (fun z => absurd z (nI_ge (by omega) (by omega))) (fun _ z => absurd z rne) (by rw [o3, r6]; omega) (by rw [o1, o3, r6]; exact kc.1) (fun _ _ => by rw [o2, o3, r6, kc.2]; exact vp_in_nI c2 (by omega)) (by rw [o3, r1]; omega) (Or.inl (by rw [o1, o3, r1]; exact k1)) (fun _ _ => by rw [o2, o3, r1, n1]; exact vp_in_nI (n := 0) (by decide) (by decide)) (by rw [o3, r1, a3]; omega) (by rw [o1, o3, r1, a3]; exact a1) (fun _ _ => by rw [ecf, o2, o3, r1, a3, a2]; exact vp_in_nI hqm (by omega)) (fun _ _ => by rw [ecf]; exact ev_pair hl1 hp hqm c2) (fun _ _ h2 p2 _ _ => ?_)
    rw [ecf, emt]
    obtain ⟨so2, hp2⟩ := p2
    refine s_X3_pairAlongPath_47 ?_
    rw [nI_1]
    have hcl2 : ∀ s i, s < 2 → op s i = false → pairM mc (q j) r s i = mt s i := fun s i hs ho => by
      rw [← hcl s i hs ho]
      match s, hs with
      | 0, _ => exact pairM_0 (fun e => by rw [e, hop] at ho; cases ho)
      | 1, _ => exact pairM_1 (fun e => by rw [e, c5] at ho; cases ho)
    rcases C2 j c1 with hn | ⟨b, j', hb, hCb, hj'⟩
    · -- the left node was bare: done
      have hmn : mc 0 (q j) = none := by rw [hmc j (Nat.le_refl _)]; exact hn
      obtain ⟨f1, f2⟩ := hx.fin c4 (by rw [hop, c5]) hmn
      have hfin : Longer h p m (sz 0) E mt op h2 := ⟨pairM mc (q j) r, hp2, f1, f2, by rw [pairM_fun, siz_up_some hql hmn, hsz], hcl2⟩
      obtain ⟨w1, w2, w3, w4, w5, w6⟩ := id (so.trans so2)
      have hg2 : GS h2 g m sz E := hg.so (so.trans so2) (by omega)
      have e32 : Ev G m_X1_most [.ref (hR h2 p 0)] h2 0 0 (Ret (some (.int (nI m))) h2) := by rw [w3, r0]; exact ev_most hg2.1
      rw [hn, show enc none = -3 from rfl]
      have no : ¬ ((-3 : Int32) = -3) → False := fun z => z rfl
      exact s_X3_pairAlongPath_4 (x1 := nI m) (P2 := fun _ => True) (by rw [w1]; exact k0) (by rw [w3, r0]; omega) e32 (by rw [w1, w3, r0]; exact hg.1.1) (fun _ => hz h2 (so.trans so2) hfin) (fun _ _ => hz h2 (so.trans so2) hfin) (by rw [w3, r6]; omega) (by rw [w1, w3, r6]; exact kc.1) (fun _ z => (no z).elim) (by rw [w3, r1]; omega) (Or.inl (by rw [w1, w3, r1]; exact k1)) (fun _ z => (no z).elim) (by rw [w3, r1, a3]; omega) (by rw [w1, w3, r1, a3]; exact a1) (fun _ z => (no z).elim) (fun _ z => (no z).elim) (fun _ z => (no z).elim)
    · have hbm : mc 0 (q j) = some b := by rw [hmc j (Nat.le_refl _)]; exact hb
      rw [hb, show enc (some b) = nI b from rfl]
      refine ih j' (t + 1) b (pairM mc (q j) r) h2 (by omega) (by omega) hCb (so.trans so2) hp2 (hx.go c4 (by rw [hop, c5]) hbm) (fun i hi => ?_) ?_ hcl2
      · rw [pairM_0 (fun e => by have := qi i j (by omega) c1 e; omega)]
        exact hmc i (by omega)
      · rw [pairM_fun, siz_up_same (by rw [hbm]; rfl)]; exact hsz
theorem ev_pairAlong {tail : Nat} {q : Nat → Nat} {C : Nat → Nat → Prop} {r j : Nat} (hg : GS h g m sz E) (hl : PL h p g m) (hp : PS h p m mt op) (hM : IsM E (mt 0) (mt 1)) (hoc : ∀ l b, mt 0 l = some b → op 0 l = op 1 b) (qi : ∀ i j, i < tail → j < tail → q i = q j → i = j) (hqo : ∀ i, i < tail → op 0 (q i) = true) (htm : tail ≤ m)
    (C1 : ∀ b j, C b j → j < tail ∧ b < m ∧ hI h (p + 10) b = nI (q j) ∧ E (q j) b = true ∧ op 1 b = true) (C2 : ∀ j, j < tail → mt 0 (q j) = none ∨ ∃ b j', mt 0 (q j) = some b ∧ C b j' ∧ j' < j) (hC : C r j) (hr : mt 1 r = none) :
    Ev G m_X3_pairAlongPath [.ref p, .int (nI r)] h 0 0 (RV (fun h' => SO (p + 2) (p + 5) h h' ∧ Longer h p m (sz 0) E mt op h')) := by
  refine Ev.of pn_X3_pairAlongPath (Nat.le_of_ble_eq_true rfl) ?_
  refine s_X3_pairAlongPath_0 ?_
  have hj := (C1 r j hC).1
  refine pp_loop (G := G) hg hl qi hqo htm C1 C2 (fun h1 so lg => ⟨⟨rfl, so, lg⟩, so.2.2.2.1, so.2.2.2.2.1⟩) (nI r) (j + 1) j 0 r mt h (by omega) (by omega) hC SO.rf hp ⟨fun l b _ => hM.1 l b, fun l e => ?_, hM.2, hoc⟩ (fun _ _ => rfl) rfl (fun _ _ _ _ => rfl)
  rw [(hM.1 l r).mp e] at hr; cases hr
end PATH
