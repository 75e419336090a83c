section ORDER
/-- layout of the order -/
def OL (h : PH) (o p g : Nat) : Prop := hK h o = 12 ∧ hR h o 0 = g ∧ hR h o 1 = p ∧ hR h o 2 = o + 1 ∧ hR h o 3 = o + 2 ∧ (hK h (o + 1) = 2 ∧ hL h (o + 1) = 40) ∧ (hK h (o + 2) = 2 ∧ hL h (o + 2) = 40) ∧ 0 < p ∧ p + 11 ≤ o
theorem OL.so {h h' : PH} {o p g lo hi : Nat} (hb : OL h o p g) (ho : SO lo hi h h') : OL h' o p g := by
  obtain ⟨k0, r0, r1, r2, r3, k1, k2, p0, pb⟩ := hb
  obtain ⟨o1, o2, o3, o4, o5, o6⟩ := ho
  unfold OL
  rw [o1, o2, o3]
  exact ⟨k0, r0, r1, r2, r3, k1, k2, p0, pb⟩
variable {G : GG} {h : PH} {o p g m n : Nat} {sz : Nat → Nat} {U : Nat → Nat → Bool} {mt : Nat → Nat → Option Nat}
def botP (n : Nat) (U : Nat → Nat → Bool) (set : Int64) (t : Nat) : Prop := t < n ∧ bt set t = true ∧ ¬ ∃ u, bt set u = true ∧ U u t = true
theorem bo_loop {nc ns : Nat} {Z : Option Value → PH → Prop} {set : Int64} (hg : GS h g m sz U) (h0 : sz 0 = n) (hs1 : sz 1 = n) (hg0 : 0 < g) (ho : OL h o p g) (hz : Z (some (.long (ofP (botP n U set)))) h) : ∀ d k (x : Int64), k + d = n → (∀ t, bt x t = true ↔ t < k ∧ botP n U set t) →
    RR G nc ns m_X2_bottomOf 5 [some (.ref o), some (.long set), none, some (.long x), none, some (.int (nI k))] [] h Z := by
  have hE : Rg (sz 0) (sz 1) U := hg.2.2.2
  have hsm := (hg.2.1 0 (by decide)).2
  have hm := hg.1.2.2.2.2.2.2.2.2.2
  have es := ev_sizeOf (G := G) hg (s := 0) (by decide)
  rw [h0] at es hsm
  obtain ⟨k0, r0, r1, r2, r3, k1, k2, p0, pb⟩ := ho
  intro d
  induction d with
  | zero =>
    intro k x e q
    have e : k = n := by omega
    subst e
    have no : ¬ nI k ≤ nI k → False := fun z => z (nI_le (Nat.le_refl _) (by omega))
    refine s_X2_bottomOf_5 (x1 := nI k) (x2 := 0) (x3 := 0) k0 (by rw [r0]; omega) (by rw [r0]; exact es) (by rw [r0]; exact hg.1.1) (fun _ => ?_) (fun z => (no z).elim) (fun z => (no z).elim) (fun z => (no z).elim) (fun z => (no z).elim) (fun z => (no z).elim)
    have : x = ofP (botP k U set) := eq_ofP (fun t _ => by
      rw [q t]; exact ⟨fun z => z.2, fun z => ⟨z.1, z⟩⟩)
    rw [this]; exact hz
  | succ d ih =>
    intro k x e q
    have hk : k < n := by omega
    have hrow : ∀ u, bt (hJ h (g + 3 + 1) k) u = U u k := fun u => hg.2.2.1 1 (by decide) k (by omega) u
    have hz0 : (hJ h (g + 3 + 1) k &&& set) = 0 ↔ ¬ ∃ u, bt set u = true ∧ U u k = true := by
      constructor
      · rintro e ⟨u, u1, u2⟩
        have : bt (hJ h (g + 3 + 1) k &&& set) u = true := by rw [bt_and, hrow, u1, u2]; rfl
        rw [e, bt_zero] at this; cases this
      · intro hn
        apply bt_ext
        intro u _
        rw [bt_zero]
        cases e : bt (hJ h (g + 3 + 1) k &&& set) u with
        | false => rfl
        | true =>
          rw [bt_and, Bool.and_eq_true, hrow] at e
          exact absurd ⟨u, e.2, e.1⟩ hn
    have skip : ¬ botP n U set k → RR G nc ns m_X2_bottomOf 5 [some (.ref o), some (.long set), none, some (.long x), none, some (.int (nI k + 1))] [] h Z := fun hn => by
      rw [nI_1]
      refine ih (k + 1) x (by omega) (fun t => ?_)
      rw [q t]
      constructor
      · rintro ⟨z1, z2⟩; exact ⟨by omega, z2⟩
      · rintro ⟨z1, z2⟩
        by_cases et : t = k
        · subst et; exact absurd z2 hn
        · exact ⟨by omega, z2⟩
    refine s_X2_bottomOf_5 (x1 := nI n) (x2 := b2i (bt set k)) (x3 := hJ h (g + 3 + 1) k) k0 (by rw [r0]; omega) (by rw [r0]; exact es) (by rw [r0]; exact hg.1.1) (fun z => absurd z (nI_ge (by omega) (by omega))) (fun _ => ev_contains _ (by omega)) (fun _ z => ?_) (fun _ _ => by rw [r0]; exact ev_across hg (s := 1) (by decide) (by omega)) (fun _ _ z => ?_) (fun _ z1 z2 => ?_)
    · exact skip (fun w => by have w2 := w.2.1; rw [b2i_0.mp z] at w2; cases w2)
    · exact skip (fun w => z (lg0.mpr (hz0.mpr w.2.2)))
    · rw [nI_1]
      refine ih (k + 1) _ (by omega) (fun t => ?_)
      rw [bt_or, Bool.or_eq_true, q t, bt_bit (by omega), decide_eq_true_eq]
      constructor
      · rintro (z | z)
        · exact ⟨by omega, z.2⟩
        · subst z; exact ⟨by omega, hk, b2i_n.mp z1, hz0.mp (lg0.mp z2)⟩
      · rintro ⟨w1, w2⟩
        by_cases et : t = k
        · exact Or.inr et
        · exact Or.inl ⟨by omega, w2⟩
theorem ev_bottomOf {set : Int64} (hg : GS h g m sz U) (h0 : sz 0 = n) (hs1 : sz 1 = n) (hg0 : 0 < g) (ho : OL h o p g) : Ev G m_X2_bottomOf [.ref o, .long set] h 0 0 (Ret (some (.long (ofP (botP n U set)))) h) := by
  refine Ev.of pn_X2_bottomOf (Nat.le_of_ble_eq_true rfl) ?_
  refine s_X2_bottomOf_0 ?_
  refine bo_loop hg h0 hs1 hg0 ho Zok n 0 0 (by omega) (fun t => ?_)
  rw [bt_zero]
  constructor
  · intro z; cases z
  · intro z; exact absurd z.1 (by omega)
/-- writing one level -/
theorem fl2_loop {nc ns : Nat} {Z : Option Value → PH → Prop} {rest bot : Int64} {v : Nat} (hg : GS h g m sz U) (h0 : sz 0 = n) (hn : n ≤ 40) (hg0 : 0 < g) (gp : g + 5 ≤ p) (ho : OL h o p g)
    (K : ∀ h1, SO (o + 1) (o + 2) h h1 → (∀ t, t < n → hI h1 (o + 1) t = if bt bot t = true then nI v else hI h (o + 1) t) → RR G nc ns m_X2_findLevels 16 [some (.ref o), some (.long (rest &&& (bot ^^^ (-1)))), none, some (.int (nI v + 1)), none, none, none] [] (sI h1 o 4 (hI h1 o 4 + 1)) Z) : ∀ d k h1, k + d = n → SO (o + 1) (o + 2) h h1 → (∀ t, t < n → hI h1 (o + 1) t = if t < k ∧ bt bot t = true then nI v else hI h (o + 1) t) →
    RR G nc ns m_X2_findLevels 38 [some (.ref o), some (.long rest), none, some (.int (nI v)), some (.long bot), none, some (.int (nI k))] [] h1 Z := by
  have hsm := (hg.2.1 0 (by decide)).2
  rw [h0] at hsm
  obtain ⟨k0, r0, r1, r2, r3, k1, k2, p0, pb⟩ := ho
  intro d
  induction d with
  | zero =>
    intro k h1 e so q
    have e : k = n := by omega
    subst e
    obtain ⟨o1, o2, o3, o4, o5, o6⟩ := id so
    have hg1 := hg.so so (Or.inl (by omega))
    have es := ev_sizeOf (G := G) hg1 (s := 0) (by decide)
    rw [h0] at es
    have no : ¬ nI k ≤ nI k → False := fun z => z (nI_le (Nat.le_refl _) (by omega))
    refine s_X2_findLevels_38 (x1 := nI k) (x2 := 0) (by rw [o1]; exact k0) (by rw [o3, r0]; omega) (by rw [o3, r0]; exact es) (by rw [o1, o3, r0]; exact hg.1.1) (fun _ => K h1 so (fun t ht => ?_)) (fun z => (no z).elim) (fun z => (no z).elim) (by rw [o3, r2]; omega) (by rw [o1, o3, r2]; exact k1.1) (fun z => (no z).elim) (fun z => (no z).elim)
    rw [q t ht]
    by_cases hb : bt bot t = true
    · rw [if_pos ⟨ht, hb⟩, if_pos hb]
    · rw [if_neg (fun z => hb z.2), if_neg hb]
  | succ d ih =>
    intro k h1 e so q
    have hk : k < n := by omega
    obtain ⟨o1, o2, o3, o4, o5, o6⟩ := id so
    have hg1 := hg.so so (Or.inl (by omega))
    have es := ev_sizeOf (G := G) hg1 (s := 0) (by decide)
    rw [h0] at es
    have rr : hR h1 o 2 = o + 1 := by rw [o3]; exact r2
    have ck : Int32.toNatClampNeg (nI k) = k := nI_clamp (by omega)
    refine s_X2_findLevels_38 (x1 := nI n) (x2 := b2i (bt bot k)) (by rw [o1]; exact k0) (by rw [o3, r0]; omega) (by rw [o3, r0]; exact es) (by rw [o1, o3, r0]; exact hg.1.1) (fun z => absurd z (nI_ge (by omega) (by omega))) (fun _ => ev_contains _ (by omega)) (fun _ z => ?_) (by rw [rr]; omega) (by rw [o1, rr]; exact k1.1) (fun _ _ => by rw [o2, rr, k1.2]; exact vp_in_nI (by omega) (by decide)) (fun _ z => ?_)
    · rw [nI_1]
      have z := b2i_0.mp z
      refine ih (k + 1) h1 (by omega) so (fun t ht => ?_)
      rw [q t ht]
      by_cases et : t = k
      · subst et; rw [if_neg (fun w => by rw [z] at w; exact absurd w.2 (by simp)), if_neg (fun w => by rw [z] at w; exact absurd w.2 (by simp))]
      · by_cases hb : t < k ∧ bt bot t = true
        · rw [if_pos hb, if_pos ⟨by omega, hb.2⟩]
        · rw [if_neg hb, if_neg (fun w => hb ⟨by omega, w.2⟩)]
    · rw [nI_1, rr, ck]
      refine ih (k + 1) _ (by omega) (so.trans (SO.sI (by omega) (by omega))) (fun t ht => ?_)
      by_cases et : t = k
      · subst et
        rw [sI_eq, if_pos ⟨by omega, b2i_n.mp z⟩]
      · rw [sI_nk et, q t ht]
        by_cases hb : t < k ∧ bt bot t = true
        · rw [if_pos hb, if_pos ⟨by omega, hb.2⟩]
        · rw [if_neg hb, if_neg (fun w => hb ⟨by omega, w.2⟩)]
/-- the levels are written -/
def LV (h : PH) (o n : Nat) (U : Nat → Nat → Bool) : Prop := (∀ t, t < n → hI h (o + 1) t = nI (lev n U t)) ∧ ∃ H, isHigh n U H ∧ hI h o 4 = nI H
theorem fl1_loop {nc ns : Nat} {Z : Option Value → PH → Prop} (hg : GS h g m sz U) (h0 : sz 0 = n) (hs1 : sz 1 = n) (hn : n ≤ 40) (hU : SPO U) (hg0 : 0 < g) (gp : g + 5 ≤ p) (ho : OL h o p g)
    (hz : ∀ h1, SO o (o + 2) h h1 → hI h1 o 5 = hI h o 5 → LV h1 o n U → Z none h1) : ∀ d v (rest : Int64) h1, v + d = 41 → SO o (o + 2) h h1 → hI h1 o 5 = hI h o 5 → hI h1 o 4 = nI v → (∀ t, bt rest t = true ↔ rs n U v t) → (∀ t, t < n → ¬ rs n U v t → hI h1 (o + 1) t = nI (lev n U t)) → (0 < v → ∃ t, rs n U (v - 1) t) →
    RR G nc ns m_X2_findLevels 16 [some (.ref o), some (.long rest), none, some (.int (nI v)), none, none, none] [] h1 Z := by
  have hR : Rg n n U := by have := hg.2.2.2; rw [h0, hs1] at this; exact this
  have ho' := ho
  obtain ⟨k0, r0, r1, r2, r3, k1, k2, p0, pb⟩ := ho
  have fin : ∀ v h1, SO o (o + 2) h h1 → hI h1 o 5 = hI h o 5 → hI h1 o 4 = nI v → (∀ t, ¬ rs n U v t) → (∀ t, t < n → ¬ rs n U v t → hI h1 (o + 1) t = nI (lev n U t)) → (0 < v → ∃ t, rs n U (v - 1) t) → Z none h1 := fun v h1 so i5 i4 w1 w2 w3 => by
    refine hz h1 so i5 ⟨fun t ht => w2 t ht (w1 t), v, ⟨fun t ht => ?_, fun hv => ?_⟩, i4⟩
    · have : ¬ v ≤ lev n U t := fun z => w1 t ((rs_lev hU ht v).mpr z)
      omega
    · obtain ⟨t, ht⟩ := w3 hv
      have htn := rs_lt _ t ht
      have h2 := (rs_lev hU htn _).mp ht
      have h3 : ¬ v ≤ lev n U t := fun z => w1 t ((rs_lev hU htn v).mpr z)
      exact ⟨t, htn, by omega⟩
  intro d
  induction d with
  | zero =>
    intro v rest h1 e so i5 i4 q1 q2 q3
    have hno : ∀ t, ¬ rs n U v t := fun t z => by have := rs_bound hU z; omega
    have yes : (40 : Int32) ≤ nI v := (nI_leI (a := 40) (by decide) (by omega)).mpr (by omega)
    exact s_X2_findLevels_16 (x1 := 0) (fun _ => fin v h1 so i5 i4 hno q2 q3) (fun z => absurd yes z) (fun z => absurd yes z) (by rw [so.1]; exact k0) (fun z => absurd yes z)
  | succ d ih =>
    intro v rest h1 e so i5 i4 q1 q2 q3
    obtain ⟨o1, o2, o3, o4, o5, o6⟩ := id so
    have hg1 := hg.so so (Or.inl (by omega))
    have ho1 := ho'.so so
    have hbot : ∀ t, bt (ofP (botP n U rest)) t = true ↔ t < n ∧ lev n U t = v := fun t => by
      rw [bt_ofP]
      constructor
      · rintro ⟨_, z1, z2, z3⟩
        exact ⟨z1, (rs_bottom hU hR z1).mp ⟨(q1 t).mp z2, fun ⟨u, u1, u2⟩ => z3 ⟨u, (q1 u).mpr u1, u2⟩⟩⟩
      · rintro ⟨z1, z2⟩
        obtain ⟨y1, y2⟩ := (rs_bottom hU hR z1).mpr z2
        exact ⟨by omega, z1, (q1 t).mpr y1, fun ⟨u, u1, u2⟩ => y2 ⟨u, (q1 u).mp u1, u2⟩⟩
    refine s_X2_findLevels_16 (x1 := ofP (botP n U rest)) (fun z => ?_) (fun _ z => ?_) (fun _ _ => ev_bottomOf hg1 h0 hs1 hg0 ho1) (by rw [so.1]; exact k0) (fun _ z => ?_)
    · have : 40 ≤ v := (nI_leI (a := 40) (by decide) (by omega)).mp z
      exact fin v h1 so i5 i4 (fun t z => by have := rs_bound hU z; omega) q2 q3
    · have e0 := lg0.mp z
      refine fin v h1 so i5 i4 (fun t z => ?_) q2 q3
      have := (q1 t).mpr z
      rw [e0, bt_zero] at this; cases this
    · refine fl2_loop (h := h1) (v := v) hg1 h0 hn hg0 gp ho1 (fun h2 so2 w => ?_) n 0 h1 (by omega) SO.rf (fun t ht => by rw [if_neg (fun z => absurd z.1 (by omega))])
      have e4 : hI h2 o 4 = nI v := by rw [(so2.2.2.2.2.2 o (by omega)).1]; exact i4
      rw [nI_1, e4, nI_1]
      have so3 : SO o (o + 2) h (sI h2 o 4 (nI (v + 1))) := (so.trans (so2.wide (by omega) (by omega))).trans (SO.sI (by omega) (by omega))
      have hstep : ∀ t, t < n → (rs n U (v + 1) t ↔ rs n U v t ∧ ¬ lev n U t = v) := fun t ht => by
        rw [rs_lev hU ht, rs_lev hU ht]; omega
      refine ih (v + 1) _ _ (by omega) so3 ?_ sI_eq (fun t => ?_) (fun t ht hr => ?_) (fun _ => ?_)
      · rw [sI_nk (by decide), (so2.2.2.2.2.2 o (by omega)).1]; exact i5
      · rw [bt_andn, Bool.and_eq_true, q1 t, Bool.not_eq_true', ← Bool.not_eq_true, hbot t]
        constructor
        · rintro ⟨z1, z2⟩
          have ht := rs_lt _ t z1
          exact (hstep t ht).mpr ⟨z1, fun e => z2 ⟨ht, e⟩⟩
        · intro z
          have ht := rs_lt _ t z
          obtain ⟨y1, y2⟩ := (hstep t ht).mp z
          exact ⟨y1, fun e => y2 e.2⟩
      · rw [sI_ne (by omega), w t ht]
        by_cases hb : bt (ofP (botP n U rest)) t = true
        · rw [if_pos hb, ((hbot t).mp hb).2]
        · rw [if_neg hb]
          refine q2 t ht (fun z => hr ((hstep t ht).mpr ⟨z, fun e => hb ((hbot t).mpr ⟨ht, e⟩)⟩))
      · have hne : rest ≠ 0 := fun e => z (lg0.mpr e)
        obtain ⟨t, _, t1, _⟩ := bt_least hne
        exact ⟨t, (q1 t).mp t1⟩
theorem ev_findLevels (hg : GS h g m sz U) (h0 : sz 0 = n) (hs1 : sz 1 = n) (hn : n ≤ 40) (hU : SPO U) (hg0 : 0 < g) (gp : g + 5 ≤ p) (ho : OL h o p g) : Ev G m_X2_findLevels [.ref o] h 0 0 (RV (fun h1 => SO o (o + 2) h h1 ∧ hI h1 o 5 = hI h o 5 ∧ LV h1 o n U)) := by
  have ea := ev_all (G := G) hg (s := 0) (by decide)
  rw [h0] at ea
  have ho' := ho
  obtain ⟨k0, r0, r1, r2, r3, k1, k2, p0, pb⟩ := ho
  refine Ev.of pn_X2_findLevels (Nat.le_of_ble_eq_true rfl) ?_
  refine s_X2_findLevels_0 k0 (by rw [r0]; omega) (by rw [r0]; exact ea) (by rw [r0]; exact hg.1.1) ?_
  refine fl1_loop hg h0 hs1 hn hU hg0 gp ho' (fun h2 so i5 q => ⟨⟨rfl, so, i5, q⟩, so.2.2.2.1, so.2.2.2.2.1⟩) 41 0 _ _ (by omega) (SO.sI (by omega) (by omega)) (sI_nk (by decide)) sI_eq (fun t => ?_) (fun t ht z => absurd ht z) (fun z => absurd z (by omega))
  rw [bt_all (by omega)]
  exact decide_eq_true_iff
end ORDER
