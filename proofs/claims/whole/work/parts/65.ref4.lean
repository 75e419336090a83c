variable {G : GG} {h h' : PH} {y n m : Nat} {A : Nat → Nat → Bool} {mt : Nat → Nat → Option Nat} {op : Nat → Nat → Bool}
def two (f f' : Nat → Option Nat) : Nat → Nat → Option Nat := fun s => if s = 0 then f else f'
def cl (op : Nat → Nat → Bool) (s i : Nat) : Nat → Nat → Bool := fun t k => op t k && !(decide (t = s) && decide (k = i))
theorem cl_iff {s i t k : Nat} : cl op s i t k = true ↔ op t k = true ∧ ¬ (t = s ∧ k = i) := by
  unfold cl
  rw [Bool.and_eq_true, Bool.not_eq_true', Bool.and_eq_false_iff, decide_eq_false_iff_not, decide_eq_false_iff_not]
  constructor
  · rintro ⟨h1, h2⟩
    exact ⟨h1, fun z => by rcases h2 with h2 | h2; exact h2 z.1; exact h2 z.2⟩
  · rintro ⟨h1, h2⟩
    refine ⟨h1, ?_⟩
    by_cases e : t = s
    · exact Or.inr (fun z => h2 ⟨e, z⟩)
    · exact Or.inl e
theorem cl_self {s i : Nat} : cl op s i s i = false := by
  cases e : cl op s i s i
  · rfl
  · exact ((cl_iff.1 e).2 ⟨rfl, rfl⟩).elim
theorem cl_ne {s i t k : Nat} (h : ¬ (t = s ∧ k = i)) : cl op s i t k = op t k := by
  unfold cl
  by_cases e : t = s
  · rw [decide_eq_false (fun z => h ⟨e, z⟩)]; simp
  · rw [decide_eq_false e]; simp
theorem EQ.shut {s i : Nat} (hq : EQ h y n m op) (hs : s < 2) (hi : i < 50) : EQ (sI h (y + 19 + s) i 1) y n m (cl op s i) := by
  obtain ⟨q1, q2, q3⟩ := hq
  refine ⟨fun k hk => ?_, fun k hk => q2 k (cl_iff.1 hk).1, fun k hk => q3 k (cl_iff.1 hk).1⟩
  rcases (by omega : s = 0 ∨ s = 1) with e | e
  · subst e
    refine ⟨?_, ?_⟩
    · by_cases ek : k = i
      · subst ek; rw [cl_self]; exact sI_eq
      · rw [cl_ne (fun z => ek z.2)]; exact (sI_nk ek).trans (q1 k hk).1
    · rw [cl_ne (fun z => absurd z.1 (by decide))]; exact (sI_ne (by omega)).trans (q1 k hk).2
  · subst e
    refine ⟨?_, ?_⟩
    · rw [cl_ne (fun z => absurd z.1 (by decide))]; exact (sI_ne (by omega)).trans (q1 k hk).1
    · by_cases ek : k = i
      · subst ek; rw [cl_self]; exact sI_eq
      · rw [cl_ne (fun z => ek z.2)]; exact (sI_nk ek).trans (q1 k hk).2
theorem EQ.opn {s i : Nat} (hq : EQ h y n m (cl op s i)) (hs : s < 2) (hi : i < 50) (ho : op s i = true) (hon : (∀ i, op 0 i = true → i < n) ∧ ∀ i, op 1 i = true → i < m) : EQ (sI h (y + 19 + s) i 0) y n m op := by
  obtain ⟨q1, q2, q3⟩ := hq
  refine ⟨fun k hk => ?_, hon.1, hon.2⟩
  rcases (by omega : s = 0 ∨ s = 1) with e | e
  · subst e
    refine ⟨?_, ?_⟩
    · by_cases ek : k = i
      · subst ek; rw [ho]; exact sI_eq
      · rw [← cl_ne (op := op) (s := 0) (i := i) (fun z => ek z.2)]; exact (sI_nk ek).trans (q1 k hk).1
    · rw [← cl_ne (op := op) (s := 0) (i := i) (t := 1) (k := k) (fun z => absurd z.1 (by decide))]; exact (sI_ne (by omega)).trans (q1 k hk).2
  · subst e
    refine ⟨?_, ?_⟩
    · rw [← cl_ne (op := op) (s := 1) (i := i) (t := 0) (k := k) (fun z => absurd z.1 (by decide))]; exact (sI_ne (by omega)).trans (q1 k hk).1
    · by_cases ek : k = i
      · subst ek; rw [ho]; exact sI_eq
      · rw [← cl_ne (op := op) (s := 1) (i := i) (fun z => ek z.2)]; exact (sI_nk ek).trans (q1 k hk).2
/-- one entry of the partners written -/
theorem EM.one {f f' : Nat → Option Nat} {i : Nat} {v : Option Nat} (hp : EM h y (two f f')) (hi : i < 50) (hv : ∀ j, v = some j → j < 50) : EM (sI h (y + 21) i (e1 v)) y (two (up f i v) f') ∧ EM (sI h (y + 22) i (e1 v)) y (two f (up f' i v)) := by
  obtain ⟨q1, q2⟩ := hp
  have q0 : ∀ i j, f i = some j → i < 50 ∧ j < 50 := fun i j => q2 0 i j (by decide)
  have q1' : ∀ i j, f' i = some j → i < 50 ∧ j < 50 := fun i j => q2 1 i j (by decide)
  have uu : ∀ g : Nat → Option Nat, (∀ i j, g i = some j → i < 50 ∧ j < 50) → ∀ k j, up g i v k = some j → k < 50 ∧ j < 50 := by
    intro g hg k j e
    by_cases ek : k = i
    · subst ek; rw [up_eq] at e; exact ⟨hi, hv j e⟩
    · rw [up_ne ek] at e; exact hg k j e
  refine ⟨⟨fun k hk => ⟨?_, (sI_ne (by omega)).trans (q1 k hk).2⟩, fun s k j hs e => ?_⟩, ⟨fun k hk => ⟨(sI_ne (by omega)).trans (q1 k hk).1, ?_⟩, fun s k j hs e => ?_⟩⟩
  · show _ = e1 (up f i v k)
    by_cases ek : k = i
    · subst ek; rw [up_eq]; exact sI_eq
    · rw [up_ne ek]; exact (sI_nk ek).trans (q1 k hk).1
  · rcases (by omega : s = 0 ∨ s = 1) with z | z
    · subst z; exact uu f q0 k j e
    · subst z; exact q1' k j e
  · show _ = e1 (up f' i v k)
    by_cases ek : k = i
    · subst ek; rw [up_eq]; exact sI_eq
    · rw [up_ne ek]; exact (sI_nk ek).trans (q1 k hk).2
  · rcases (by omega : s = 0 ∨ s = 1) with z | z
    · subst z; exact q0 k j e
    · subst z; exact uu f' q1' k j e
theorem EM.two (hp : EM h y mt) : EM h y (two (mt 0) (mt 1)) := ⟨hp.1, fun s i j hs e => by
  rcases (by omega : s = 0 ∨ s = 1) with z | z
  · subst z; exact hp.2 0 i j hs e
  · subst z; exact hp.2 1 i j hs e⟩
theorem opF_le {f : Nat → Option Nat} {q : Nat → Bool} : siz n (fun i => if q i = true then f i else none) ≤ siz n f := by
  refine cnt_mono (fun i h => ?_)
  have h : (if q i = true then f i else none).isSome = true := h
  by_cases e : q i = true
  · rw [if_pos e] at h; exact h
  · rw [if_neg e] at h; cases h
theorem great_two (hRg : Rg n m A) (hG : Great n A (mt 0) (mt 1)) {l r : Nat} (hlr : mt 0 l = some r) : IsM A (up (mt 0) l none) (up (mt 1) r none) ∧ siz n (up (mt 0) l none) + 1 = siz n (mt 0) := by
  refine ⟨hG.1.del hlr, ?_⟩
  exact (siz_up_none (hRg _ _ (hG.1.2 _ _ hlr)).1 (by rw [hlr]; rfl)).symm
theorem all_oc (hRg : Rg n m A) {f f' : Nat → Option Nat} (hM : IsM A f f') (l b : Nat) (e : f l = some b) : opAll (sz2 n m) 0 l = opAll (sz2 n m) 1 b := by
  have := hRg _ _ (hM.2 _ _ e)
  rw [opAll_lt.2 (show l < sz2 n m 0 from this.1), opAll_lt.2 (show b < sz2 n m 1 from this.2)]
theorem cm_oc (hRg : Rg n m A) (hG : Great n A (mt 0) (mt 1)) {l r s i : Nat} (hlr : mt 0 l = some r) (hs : s < 2) (hi : i = if s = 0 then l else r) (a b : Nat) (e : up (mt 0) l none a = some b) : cl (opAll (sz2 n m)) s i 0 a = cl (opAll (sz2 n m)) s i 1 b := by
  have hal : a ≠ l := fun z => by rw [z, up_eq] at e; cases e
  rw [up_ne hal] at e
  have hbr : b ≠ r := fun z => by
    subst z
    exact hal (Option.some.inj (((hG.1.1 _ _).1 e).symm.trans ((hG.1.1 _ _).1 hlr)))
  rw [cl_ne, cl_ne]
  · exact all_oc hRg hG.1 a b e
  · rintro ⟨z1, z2⟩
    subst z1
    rw [if_neg (by decide)] at hi
    exact hbr (z2.trans hi)
  · rintro ⟨z1, z2⟩
    subst z1
    rw [if_pos rfl] at hi
    exact hal (z2.trans hi)
theorem cm_yes (hRg : Rg n m A) (hG : Great n A (mt 0) (mt 1)) {l r s i : Nat} {mt' : Nat → Nat → Option Nat} (hlr : mt 0 l = some r) (hs : s < 2) (hi : i = if s = 0 then l else r) (hM : IsM A (mt' 0) (mt' 1)) (hz : siz n (mt' 0) = siz n (up (mt 0) l none) + 1) (hno : mt' s i = none) : mis (sz2 n m) A s i := by
  have hz2 := (great_two hRg hG hlr).2
  have hlt := hRg _ _ (hG.1.2 _ _ hlr)
  have hz3 : siz n (mt 0) ≤ siz n (mt' 0) := by omega
  refine ⟨?_, mt' 0, mt' 1, great_same hG hM hz3, ?_⟩
  · rcases (by omega : s = 0 ∨ s = 1) with e | e
    · subst e; rw [hi]; exact hlt.1
    · subst e; rw [hi]; exact hlt.2
  · rcases (by omega : s = 0 ∨ s = 1) with e | e
    · subst e; exact hno
    · subst e; exact hno
theorem cm_no (hRg : Rg n m A) (hG : Great n A (mt 0) (mt 1)) {l r s i : Nat} (hlr : mt 0 l = some r) (hs : s < 2) (hi : i = if s = 0 then l else r) (hC : Cert A (two (up (mt 0) l none) (up (mt 1) r none)) (cl (opAll (sz2 n m)) s i)) : ¬ mis (sz2 n m) A s i := by
  rintro ⟨_, g, g', hg, e⟩
  have hgr := cert_great (mt := two (up (mt 0) l none) (up (mt 1) r none)) (op := cl (opAll (sz2 n m)) s i) hRg (great_two hRg hG hlr).1 (fun a b z => cm_oc hRg hG hlr hs hi a b z) hC
  have hgM : IsM (opA A (cl (opAll (sz2 n m)) s i)) g g' := by
    refine hg.1.sub (fun a b z => opA_iff.2 ⟨hg.1.2 _ _ z, ?_, ?_⟩)
    · refine cl_iff.2 ⟨opAll_lt.2 (hRg _ _ (hg.1.2 _ _ z)).1, ?_⟩
      rintro ⟨z1, z2⟩
      subst z1 z2
      have e : g a = none := e
      rw [z] at e; cases e
    · refine cl_iff.2 ⟨opAll_lt.2 (hRg _ _ (hg.1.2 _ _ z)).2, ?_⟩
      rintro ⟨z1, z2⟩
      subst z1 z2
      have e : g' b = none := e
      rw [(hg.1.1 _ _).1 z] at e; cases e
  have h1 := hgr.2 g g' hgM
  have h2 : siz n (opF (two (up (mt 0) l none) (up (mt 1) r none)) (cl (opAll (sz2 n m)) s i) 0) ≤ siz n (up (mt 0) l none) := opF_le
  have h3 := great_siz hG hg
  have h4 := (great_two hRg hG hlr).2
  have h5 : siz (sz2 n m 0) g = siz n g := rfl
  omega
theorem m_canMiss {s i : Nat} (hg : EG h y n m A mt (opAll (sz2 n m))) (hG : Great n A (mt 0) (mt 1)) (hs : s < 2) (hi : i < sz2 n m s) : Ev G m_X6_canMiss [.ref y, .int (b2i (decide (s = 0))), .int (nI i)] h 0 0 (RI (fun x h' => x = b2i (dc (mis (sz2 n m) A s i)) ∧ EO y [19, 20, 21, 22, 23, 24, 25, 26] [38] h h' ∧ EG h' y n m A mt (opAll (sz2 n m)))) := by
  obtain ⟨hm, hN', he, hq, hp⟩ := id hg
  obtain ⟨r30, k30, l30⟩ := hm.r 30 19 4 50 (by decide)
  obtain ⟨r31, k31, l31⟩ := hm.r 31 20 4 50 (by decide)
  obtain ⟨r32, k32, l32⟩ := hm.r 32 21 2 50 (by decide)
  obtain ⟨r33, k33, l33⟩ := hm.r 33 22 2 50 (by decide)
  have y0 := hm.2.1
  obtain ⟨n1, n2, n3, n4⟩ := id hN'
  have hRg := he.2
  have hi50 : i < 50 := by
    rcases (by omega : s = 0 ∨ s = 1) with e | e
    · subst e; exact Nat.lt_of_lt_of_le hi n3
    · subst e; exact Nat.lt_of_lt_of_le hi n4
  have ci : Int32.toNatClampNeg (nI i) = i := nI_clamp (by omega)
  have vpi : vp_in (nI i) 50 := vp_in_nI hi50 (by decide)
  have flag : (b2i (decide (s = 0)) = 0 ↔ s = 1) ∧ (¬ b2i (decide (s = 0)) = 0 ↔ s = 0) := by
    rcases (by omega : s = 0 ∨ s = 1) with e | e
    · subst e; decide
    · subst e; decide
  have hon : (∀ i, opAll (sz2 n m) 0 i = true → i < n) ∧ ∀ i, opAll (sz2 n m) 1 i = true → i < m := ⟨fun i z => opAll_lt.1 z, fun i z => opAll_lt.1 z⟩
  have ho : opAll (sz2 n m) s i = true := opAll_lt.2 hi
  refine Ev.of pn_X6_canMiss (Nat.le_of_ble_eq_true rfl) ?_
  -- the end, with the answer of grow
  have fin : ∀ (l r : Nat) (h1 : PH), mt 0 l = some r → i = (if s = 0 then l else r) → EO y [19, 20, 21, 22, 23, 24, 25, 26] [38] h h1 → KP h1 y mt → EN h1 y n m → EE h1 y n m A → EQ h1 y n m (cl (opAll (sz2 n m)) s i) → ∀ x : Int32, (x = 0 ∨ x = 1) → (x = b2i (dc (mis (sz2 n m) A s i))) → ∀ e3 : Int32,
      RR G (hN h + 0) (hS h + 0) m_X6_canMiss 83 [some (.ref y), some (.int (b2i (decide (s = 0)))), some (.int (nI i)), some (.int e3), none] [.int x] h1 (fun v h' => RI (fun x h' => x = b2i (dc (mis (sz2 n m) A s i)) ∧ EO y [19, 20, 21, 22, 23, 24, 25, 26] [38] h h' ∧ EG h' y n m A mt (opAll (sz2 n m))) v h' ∧ hN h' = hN h + 0 ∧ hS h' = hS h + 0) := by
    intro l r h1 hlr hil eo kp en ee eq x x01 ex e3
    obtain ⟨o1, o2, o3, -⟩ := id eo
    have hm1 := hm.eo eo
    have e30 : hR h1 y 30 = y + 19 := by rw [o3]; exact r30
    have e31 : hR h1 y 31 = y + 20 := by rw [o3]; exact r31
    have c30 : hI h1 (y + 19) i = 0 ∨ hI h1 (y + 19) i = 1 := by rw [(eq.1 i hi50).1]; exact b2i_01 _
    have c31 : hI h1 (y + 20) i = 0 ∨ hI h1 (y + 20) i = 1 := by rw [(eq.1 i hi50).2]; exact b2i_01 _
    have last : ∀ h2 : PH, EO y [19, 20] [] h1 h2 → EQ h2 y n m (opAll (sz2 n m)) → Ev G m_X6_putBack [.ref y] h2 0 0 (RV (fun h3 => EO y [21, 22] [] h2 h3 ∧ EM h3 y mt)) ∧ ∀ h3, (EO y [21, 22] [] h2 h3 ∧ EM h3 y mt) → RR G (hN h + 0) (hS h + 0) m_X6_canMiss 129 [some (.ref y), some (.int (b2i (decide (s = 0)))), some (.int (nI i)), some (.int e3), some (.int x)] [] h3 (fun v h' => RI (fun x h' => x = b2i (dc (mis (sz2 n m) A s i)) ∧ EO y [19, 20, 21, 22, 23, 24, 25, 26] [38] h h' ∧ EG h' y n m A mt (opAll (sz2 n m))) v h' ∧ hN h' = hN h + 0 ∧ hS h' = hS h + 0) := by
      intro h2 eo2 eq2
      refine ⟨m_putBack (hm1.eo eo2) (kp.eo eo2 (by decide) (by decide)), fun h3 q => ?_⟩
      obtain ⟨eo3, em3⟩ := q
      have eo4 : EO y [19, 20, 21, 22, 23, 24, 25, 26] [38] h h3 := (eo.trans (eo2.wide (by decide) (by decide))).trans (eo3.wide (by decide) (by decide))
      exact s_X6_canMiss_129 ⟨⟨x, rfl, ex, eo4, hm.eo eo4, (en.eo eo2 (by decide) (by decide)).eo eo3 (by decide) (by decide), (ee.eo eo2 (by decide)).eo eo3 (by decide), eq2.eo eo3 (by decide) (by decide), em3⟩, eo4.2.2.2.1, eo4.2.2.2.2.1⟩ x01
    rcases (by omega : s = 0 ∨ s = 1) with es | es
    · have z1 : ¬ b2i (decide (s = 0)) = 0 := flag.2.2 es
      have eo2 : EO y [19, 20] [] h1 (sI (sI h1 (y + 19) i 0) (y + 20) i (hI (sI h1 (y + 19) i 0) (y + 20) i)) := (EO.cI (by decide) (by decide) (by decide)).trans (EO.cI (by decide) (by decide) (by decide))
      have eq2 : EQ (sI (sI h1 (y + 19) i 0) (y + 20) i (hI (sI h1 (y + 19) i 0) (y + 20) i)) y n m (opAll (sz2 n m)) := by
        have a := eq.opn (s := s) (i := i) hs hi50 ho hon
        rw [es] at a
        refine ⟨fun k hk => ⟨?_, ?_⟩, a.2⟩
        · rw [sI_ne (by omega)]; exact (a.1 k hk).1
        · by_cases ek : k = i
          · subst ek; rw [sI_eq]; exact (a.1 k hk).2
          · rw [sI_nk ek]; exact (a.1 k hk).2
      obtain ⟨f1, f2⟩ := last _ eo2 eq2
      refine s_X6_canMiss_83 (P1 := fun _ => True) (P2 := fun _ => True) (P3 := fun _ => True) (by rw [o1]; exact hm.1) (by rw [e30]; omega) (by rw [o1, e30]; exact k30) (fun z => (z1 z).elim) (fun z => (z1 z).elim) (by rw [e31]; omega) (by rw [o1, e31]; exact k31) (fun z => (z1 z).elim) (fun z => (z1 z).elim) (fun z => (z1 z).elim) (fun z => (z1 z).elim) (fun z => (z1 z).elim) (fun z => (z1 z).elim) (fun z => (z1 z).elim) (fun z => (z1 z).elim) (fun _ => by rw [o2, e30, l30]; exact vpi) (fun _ z => (z1 z).elim) (fun _ z => (z1 z).elim) (fun _ z => (z1 z).elim) (fun _ _ => by rw [o2, e31, l31]; exact vpi) (fun _ _ => by rw [o2, e31, l31]; exact vpi) (fun _ _ => by rw [e30, e31, ci, sI_ne (by omega)]; exact c31) (fun _ _ => by rw [e30, e31, ci]; exact f1) (fun _ _ h3 q _ _ => f2 h3 q)
    · have z1 : b2i (decide (s = 0)) = 0 := flag.1.2 es
      have eo2 : EO y [19, 20] [] h1 (sI (sI h1 (y + 19) i (hI h1 (y + 19) i)) (y + 20) i 0) := (EO.cI (by decide) (by decide) (by decide)).trans (EO.cI (by decide) (by decide) (by decide))
      have eq2 : EQ (sI (sI h1 (y + 19) i (hI h1 (y + 19) i)) (y + 20) i 0) y n m (opAll (sz2 n m)) := by
        have a := eq.opn (s := s) (i := i) hs hi50 ho hon
        rw [es] at a
        refine ⟨fun k hk => ⟨?_, ?_⟩, a.2⟩
        · rw [sI_ne (by omega)]
          have := (a.1 k hk).1
          rw [sI_ne (by omega)] at this
          by_cases ek : k = i
          · subst ek; rw [sI_eq]; exact this
          · rw [sI_nk ek]; exact this
        · have := (a.1 k hk).2
          by_cases ek : k = i
          · subst ek
            rw [sI_eq]
            rw [show y + 19 + 1 = y + 20 from rfl, sI_eq] at this
            exact this
          · rw [sI_nk ek, sI_ne (by omega)]
            rw [show y + 19 + 1 = y + 20 from rfl, sI_nk ek] at this
            exact this
      obtain ⟨f1, f2⟩ := last _ eo2 eq2
      refine s_X6_canMiss_83 (P2 := fun _ => True) (P3 := fun _ => True) (P4 := fun _ => True) (by rw [o1]; exact hm.1) (by rw [e30]; omega) (by rw [o1, e30]; exact k30) (fun _ => by rw [o2, e30, l30]; exact vpi) (fun _ => by rw [e30, ci]; exact c30) (by rw [e31]; omega) (by rw [o1, e31]; exact k31) (fun _ _ => by rw [o2, e31, l31]; exact vpi) (fun _ _ => by rw [e30, e31, ci]; exact f1) (fun _ _ h3 q _ _ => f2 h3 q) (fun _ z => (z z1).elim) (fun _ z => (z z1).elim) (fun _ z => (z z1).elim) (fun _ z => (z z1).elim) (fun _ z => (z z1).elim) (fun z => (z z1).elim) (fun z => (z z1).elim) (fun z => (z z1).elim) (fun z => (z z1).elim) (fun z => (z z1).elim) (fun z => (z z1).elim) (fun z => (z z1).elim) (fun z => (z z1).elim) (fun z => (z z1).elim)
  -- the search without the node
  have mid : ∀ (l r : Nat) (h1 : PH), mt 0 l = some r → i = (if s = 0 then l else r) → EO y [23, 24] [] h h1 → KP h1 y mt → ∀ e3 : Int32, e3 = nI (if s = 0 then r else l) →
      RR G (hN h + 0) (hS h + 0) m_X6_canMiss 30 [some (.ref y), some (.int (b2i (decide (s = 0)))), some (.int (nI i)), some (.int e3), none] [] h1 (fun v h' => RI (fun x h' => x = b2i (dc (mis (sz2 n m) A s i)) ∧ EO y [19, 20, 21, 22, 23, 24, 25, 26] [38] h h' ∧ EG h' y n m A mt (opAll (sz2 n m))) v h' ∧ hN h' = hN h + 0 ∧ hS h' = hS h + 0) := by
    intro l r h1 hlr hil eo kp e3 ee3
    obtain ⟨o1, o2, o3, -⟩ := id eo
    have hm1 := hm.eo eo
    have hlt := hRg _ _ (hG.1.2 _ _ hlr)
    have e30 : hR h1 y 30 = y + 19 := by rw [o3]; exact r30
    have e31 : hR h1 y 31 = y + 20 := by rw [o3]; exact r31
    have e32 : hR h1 y 32 = y + 21 := by rw [o3]; exact r32
    have e33 : hR h1 y 33 = y + 22 := by rw [o3]; exact r33
    have em1 := (hp.eo eo (by decide) (by decide)).two
    obtain ⟨gM, gz⟩ := great_two hRg hG hlr
    have search : ∀ h2 : PH, EO y [19, 20, 21, 22] [] h1 h2 → EQ h2 y n m (cl (opAll (sz2 n m)) s i) → EM h2 y (two (up (mt 0) l none) (up (mt 1) r none)) → Ev G m_X6_grow [.ref y] h2 0 0 (RI (fun x h' => (x = 1 ∧ EO y [21, 22, 25, 26] [38] h2 h' ∧ Grown h2 y n A (two (up (mt 0) l none) (up (mt 1) r none)) (cl (opAll (sz2 n m)) s i) h') ∨ (x = 0 ∧ EO y [21, 22, 25, 26] [38] h2 h' ∧ EM h' y (two (up (mt 0) l none) (up (mt 1) r none)) ∧ Cert A (two (up (mt 0) l none) (up (mt 1) r none)) (cl (opAll (sz2 n m)) s i)))) ∧
        ∀ (x : Int32) (h' : PH), ((x = 1 ∧ EO y [21, 22, 25, 26] [38] h2 h' ∧ Grown h2 y n A (two (up (mt 0) l none) (up (mt 1) r none)) (cl (opAll (sz2 n m)) s i) h') ∨ (x = 0 ∧ EO y [21, 22, 25, 26] [38] h2 h' ∧ EM h' y (two (up (mt 0) l none) (up (mt 1) r none)) ∧ Cert A (two (up (mt 0) l none) (up (mt 1) r none)) (cl (opAll (sz2 n m)) s i))) →
          RR G (hN h + 0) (hS h + 0) m_X6_canMiss 83 [some (.ref y), some (.int (b2i (decide (s = 0)))), some (.int (nI i)), some (.int e3), none] [.int x] h' (fun v h' => RI (fun x h' => x = b2i (dc (mis (sz2 n m) A s i)) ∧ EO y [19, 20, 21, 22, 23, 24, 25, 26] [38] h h' ∧ EG h' y n m A mt (opAll (sz2 n m))) v h' ∧ hN h' = hN h + 0 ∧ hS h' = hS h + 0) := by
      intro h2 eo2 eq2 em2
      have en2 := (hN'.eo eo (by decide) (by decide)).eo eo2 (by decide) (by decide)
      have ee2 := (he.eo eo (by decide)).eo eo2 (by decide)
      refine ⟨m_grow (hm1.eo eo2) en2 ee2 eq2 em2 gM (fun a b z => cm_oc hRg hG hlr hs hil a b z), fun x h3 q => ?_⟩
      have go : ∀ h3, EO y [21, 22, 25, 26] [38] h2 h3 → ∀ x : Int32, (x = 0 ∨ x = 1) → x = b2i (dc (mis (sz2 n m) A s i)) → RR G (hN h + 0) (hS h + 0) m_X6_canMiss 83 [some (.ref y), some (.int (b2i (decide (s = 0)))), some (.int (nI i)), some (.int e3), none] [.int x] h3 (fun v h' => RI (fun x h' => x = b2i (dc (mis (sz2 n m) A s i)) ∧ EO y [19, 20, 21, 22, 23, 24, 25, 26] [38] h h' ∧ EG h' y n m A mt (opAll (sz2 n m))) v h' ∧ hN h' = hN h + 0 ∧ hS h' = hS h + 0) := by
        intro h3 eo3 x x01 ex
        exact fin l r h3 hlr hil (((eo.wide (by decide) (by decide)).trans (eo2.wide (by decide) (by decide))).trans (eo3.wide (by decide) (by decide))) ((kp.eo eo2 (by decide) (by decide)).eo eo3 (by decide) (by decide)) (en2.eo eo3 (by decide) (by decide)) (ee2.eo eo3 (by decide)) (eq2.eo eo3 (by decide) (by decide)) x x01 ex e3
      rcases q with ⟨e, eo3, mt', p1, p2, p3, p4, p5⟩ | ⟨e, eo3, p1, hC⟩
      · subst e
        refine go h3 eo3 1 (Or.inr rfl) ?_
        have hno : mt' s i = none := by
          rw [p5 s i hs cl_self, hil]
          rcases (by omega : s = 0 ∨ s = 1) with es | es
          · subst es; exact up_eq
          · subst es; exact up_eq
        rw [dc_iff.2 (cm_yes hRg hG hlr hs hil p2 p4 hno)]; rfl
      · subst e
        refine go h3 eo3 0 (Or.inl rfl) ?_
        rw [dc_no.2 (cm_no hRg hG hlr hs hil hC)]; rfl
    rcases (by omega : s = 0 ∨ s = 1) with es | es
    · have z1 : ¬ b2i (decide (s = 0)) = 0 := flag.2.2 es
      have eil : i = l := by rw [hil, es]; rfl
      have ee3 : e3 = nI r := by rw [ee3, es]; rfl
      have c3 : Int32.toNatClampNeg e3 = r := by rw [ee3]; exact nI_clamp (by omega)
      have em2 := ((em1.one (i := l) (v := none) (by omega) (fun j z => by cases z)).1.one (i := r) (v := none) (by omega) (fun j z => by cases z)).2
      have eo2 : EO y [21, 22] [] h1 (sI (sI h1 (y + 21) l (e1 none)) (y + 22) r (e1 none)) := (EO.cI (by decide) (by decide) (by decide)).trans (EO.cI (by decide) (by decide) (by decide))
      have eq2 := ((hq.eo eo (by decide) (by decide)).eo eo2 (by decide) (by decide)).shut (s := s) (i := i) hs hi50
      have eo3 : EO y [19, 20, 21, 22] [] h1 (sI (sI (sI h1 (y + 21) l (e1 none)) (y + 22) r (e1 none)) (y + 19) i 1) := (eo2.wide (by decide) (by decide)).trans (EO.cI (by decide) (by decide) (by decide))
      have em3 : EM (sI (sI (sI h1 (y + 21) l (e1 none)) (y + 22) r (e1 none)) (y + 19) i 1) y (two (up (mt 0) l none) (up (mt 1) r none)) := em2.eo (S := [19]) (D := []) (EO.cI (by decide) (by decide) (by decide)) (by decide) (by decide)
      obtain ⟨f1, f2⟩ := search _ eo3 (by rw [es] at eq2 ⊢; exact eq2) em3
      refine s_X6_canMiss_30 (P1 := fun _ _ => True) (by rw [o1]; exact hm.1) (by rw [e33]; omega) (by rw [o1, e33]; exact k33) (fun z => (z1 z).elim) (by rw [e32]; omega) (by rw [o1, e32]; exact k32) (fun z => (z1 z).elim) (by rw [e31]; omega) (by rw [o1, e31]; exact k31) (fun z => (z1 z).elim) (fun z => (z1 z).elim) (fun z => (z1 z).elim) (fun _ => by rw [o2, e32, l32]; exact vpi) (fun _ => by rw [o2, e33, l33, ee3]; exact vp_in_nI (by omega) (by decide)) (by rw [e30]; omega) (by rw [o1, e30]; exact k30) (fun _ => by rw [o2, e30, l30]; exact vpi) (fun _ => ?_) (fun _ x h' q _ _ => f2 x h' q)
      rw [e30, e32, e33, ci, c3, ← eil] at *
      exact f1
    · have z1 : b2i (decide (s = 0)) = 0 := flag.1.2 es
      have eil : i = r := by rw [hil, es]; rfl
      have ee3 : e3 = nI l := by rw [ee3, es]; rfl
      have c3 : Int32.toNatClampNeg e3 = l := by rw [ee3]; exact nI_clamp (by omega)
      have em2 := ((em1.one (i := r) (v := none) (by omega) (fun j z => by cases z)).2.one (i := l) (v := none) (by omega) (fun j z => by cases z)).1
      have eo2 : EO y [21, 22] [] h1 (sI (sI h1 (y + 22) r (e1 none)) (y + 21) l (e1 none)) := (EO.cI (by decide) (by decide) (by decide)).trans (EO.cI (by decide) (by decide) (by decide))
      have eq2 := ((hq.eo eo (by decide) (by decide)).eo eo2 (by decide) (by decide)).shut (s := s) (i := i) hs hi50
      have eo3 : EO y [19, 20, 21, 22] [] h1 (sI (sI (sI h1 (y + 22) r (e1 none)) (y + 21) l (e1 none)) (y + 20) i 1) := (eo2.wide (by decide) (by decide)).trans (EO.cI (by decide) (by decide) (by decide))
      have em3 : EM (sI (sI (sI h1 (y + 22) r (e1 none)) (y + 21) l (e1 none)) (y + 20) i 1) y (two (up (mt 0) l none) (up (mt 1) r none)) := em2.eo (S := [20]) (D := []) (EO.cI (by decide) (by decide) (by decide)) (by decide) (by decide)
      obtain ⟨f1, f2⟩ := search _ eo3 (by rw [es] at eq2 ⊢; exact eq2) em3
      refine s_X6_canMiss_30 (P2 := fun _ _ => True) (by rw [o1]; exact hm.1) (by rw [e33]; omega) (by rw [o1, e33]; exact k33) (fun _ => by rw [o2, e33, l33]; exact vpi) (by rw [e32]; omega) (by rw [o1, e32]; exact k32) (fun _ => by rw [o2, e32, l32, ee3]; exact vp_in_nI (by omega) (by decide)) (by rw [e31]; omega) (by rw [o1, e31]; exact k31) (fun _ => by rw [o2, e31, l31]; exact vpi) (fun _ => ?_) (fun _ x h' q _ _ => f2 x h' q) (fun z => (z z1).elim) (fun z => (z z1).elim) (by rw [e30]; omega) (by rw [o1, e30]; exact k30) (fun z => (z z1).elim) (fun z => (z z1).elim) (fun z => (z z1).elim)
      rw [e31, e32, e33, ci, c3, ← eil] at *
      exact f1
  have bare : mt s i = none → (fun v h' => RI (fun x h' => x = b2i (dc (mis (sz2 n m) A s i)) ∧ EO y [19, 20, 21, 22, 23, 24, 25, 26] [38] h h' ∧ EG h' y n m A mt (opAll (sz2 n m))) v h' ∧ hN h' = hN h + 0 ∧ hS h' = hS h + 0) (some (.int 1)) h := by
    intro z
    have : mis (sz2 n m) A s i := ⟨hi, mt 0, mt 1, hG, by
      rcases (by omega : s = 0 ∨ s = 1) with es | es
      · subst es; exact z
      · subst es; exact z⟩
    exact ⟨⟨1, rfl, by rw [dc_iff.2 this]; rfl, EO.rf, hg⟩, rfl, rfl⟩
  have v21 := (hp.1 i hi50).1
  have v22 := (hp.1 i hi50).2
  refine s_X6_canMiss_0 hm.1 (by rw [r33]; omega) (by rw [r33]; exact k33) (fun _ => by rw [r33, l33]; exact vpi) (fun _ _ => m_keep hm hp) (fun z1 z2 h1 q _ _ => ?_) (fun z1 z2 => ?_) (by rw [r32]; omega) (by rw [r32]; exact k32) (fun _ => by rw [r32, l32]; exact vpi) (fun _ _ => m_keep hm hp) (fun z1 z2 h1 q _ _ => ?_) (fun z1 z2 => ?_)
  · have es := flag.1.1 z1
    rw [r33, ci, v22, e1_ge (hp.lt (by decide))] at z2
    obtain ⟨l, hl⟩ := isSome_ex z2
    rw [r33, ci, v22, hl]
    refine mid l i h1 ((hG.1.1 _ _).2 hl) (by rw [es]; rfl) q.1 q.2 (e1 (some l)) ?_
    rw [es]; rfl
  · have es := flag.1.1 z1
    rw [r33, ci, v22, e1_ge (hp.lt (by decide))] at z2
    refine bare ?_
    rw [es]
    cases e : mt 1 i with
    | none => rfl
    | some _ => rw [e] at z2; exact (z2 rfl).elim
  · have es := flag.2.1 z1
    rw [r32, ci, v21, e1_ge (hp.lt (by decide))] at z2
    obtain ⟨r, hr⟩ := isSome_ex z2
    rw [r32, ci, v21, hr]
    refine mid i r h1 hr (by rw [es]; rfl) q.1 q.2 (e1 (some r)) ?_
    rw [es]; rfl
  · have es := flag.2.1 z1
    rw [r32, ci, v21, e1_ge (hp.lt (by decide))] at z2
    refine bare ?_
    rw [es]
    cases e : mt 0 i with
    | none => rfl
    | some _ => rw [e] at z2; exact (z2 rfl).elim
