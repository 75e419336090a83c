section NUMALL
variable {G : GG} {h : PH} {b p g m : Nat} {sz : Nat → Nat} {E : Nat → Nat → Bool} {mt : Nat → Nat → Option Nat} {f' : Nat → Option Nat}
/-- the rows of what is reached -/
def BR (h : PH) (b : Nat) (sz : Nat → Nat) (E : Nat → Nat → Bool) (f' : Nat → Option Nat) : Prop := ∀ l, l < sz 0 → ∀ j, bt (hJ h (b + 1) l) j = true ↔ inn sz E 0 l ∧ inn sz E 0 j ∧ Cl (stp E f') l j
theorem BR.so {h' : PH} {lo hi : Nat} (hr : BR h b sz E f') (ho : SO lo hi h h') (hd : b + 2 ≤ lo ∨ hi ≤ b + 1) : BR h' b sz E f' := by
  intro l hl j
  rw [(ho.2.2.2.2.2 (b + 1) (by omega)).2 l]
  exact hr l hl j
theorem ga_loop {nc ns : Nat} {Z : Option Value → PH → Prop} {F q : Nat} (hg : GS h g m sz E) (hl : PL h p g m) (hb : BL h b p g) (hr : BR h b sz E f') (hF : F < sz 0) (h5 : hI h b 6 = nI q)
    (hz : ∀ h1, SO (b + 2) (b + 3) h h1 → (∀ l, l < sz 0 → hI h1 (b + 2) l = if dc (eqb sz E f' F l) then nI q else hI h (b + 2) l) → Z (some (.long (ofP (fun l => eqb sz E f' F l)))) h1) : ∀ d k (x : Int64) h1, k + d = sz 0 → SO (b + 2) (b + 3) h h1 → (∀ l, bt x l = true ↔ l < k ∧ eqb sz E f' F l) → (∀ l, l < sz 0 → hI h1 (b + 2) l = if dc (l < k ∧ eqb sz E f' F l) then nI q else hI h (b + 2) l) →
    RR G nc ns m_X0_gather 5 [some (.ref b), some (.int (nI F)), some (.long x), none, some (.int (nI k))] [] h1 Z := by
  have hE : Rg (sz 0) (sz 1) E := hg.2.2.2
  have hsm := (hg.2.1 0 (by decide)).2
  have hm := hg.1.2.2.2.2.2.2.2.2.2
  obtain ⟨k0, r0, r1, r2, r3, r4, k1, k2, k3, p0, pb, r5, k4⟩ := hb
  have g0 := hl.2.2.2.2.2.2.2.2.2.2.2.2.2.2.2.2.2.2.1
  have gp := hl.2.2.2.2.2.2.2.2.2.2.2.2.2.2.2.2.2.2.2
  have cF : Int32.toNatClampNeg (nI F) = F := nI_clamp (by omega)
  intro d
  induction d with
  | zero =>
    intro k x h1 e so qx qn
    have e : k = sz 0 := by omega
    subst e
    obtain ⟨o1, o2, o3, o4, o5, o6⟩ := id so
    have hg1 := hg.so so (Or.inl (by omega))
    have no : ¬ nI (sz 0) ≤ nI (sz 0) → False := fun z => z (nI_le (Nat.le_refl _) (by omega))
    refine s_X0_gather_5 (x1 := nI (sz 0)) (x2 := 0) (x3 := 0) (by rw [o1]; exact k0) (by rw [o3, r0]; omega) (by rw [o3, r0]; exact ev_sizeOf hg1 (s := 0) (by decide)) (by rw [o1, o3, r0]; exact hg.1.1) (fun _ => ?_) (by rw [o3, r2]; omega) (by rw [o1, o3, r2]; exact k1.1) (fun z => (no z).elim) (fun z => (no z).elim) (fun z => (no z).elim) (fun z => (no z).elim) (fun z => (no z).elim) (fun z => (no z).elim) (by rw [o3, r3]; omega) (by rw [o1, o3, r3]; exact k2.1) (fun z => (no z).elim) (fun z => (no z).elim)
    have ex : x = ofP (fun l => eqb sz E f' F l) := eq_ofP (fun l _ => by
      rw [qx l]
      exact ⟨fun z => z.2, fun z => ⟨z.2.1.1, z⟩⟩)
    rw [ex]
    refine hz h1 so (fun l hl => ?_)
    rw [qn l hl, dc_congr (Q := eqb sz E f' F l) ⟨fun z => z.2, fun z => ⟨hl, z⟩⟩]
  | succ d ih =>
    intro k x h1 e so qx qn
    have hk : k < sz 0 := by omega
    obtain ⟨o1, o2, o3, o4, o5, o6⟩ := id so
    have hg1 := hg.so so (Or.inl (by omega))
    have hr1 := hr.so so (Or.inl (by omega))
    have ck : Int32.toNatClampNeg (nI k) = k := nI_clamp (by omega)
    have rr : hR h1 b 2 = b + 1 := by rw [o3]; exact r2
    have rr3 : hR h1 b 3 = b + 2 := by rw [o3]; exact r3
    have i5 : hI h1 b 6 = nI q := by rw [(o6 b (by omega)).1]; exact h5
    have heq : (bt (hJ h1 (b + 1) F) k = true ∧ bt (hJ h1 (b + 1) k) F = true) ↔ eqb sz E f' F k := by
      rw [hr1 F hF k, hr1 k hk F]
      exact ⟨fun z => ⟨z.1.1, z.1.2.1, z.1.2.2, z.2.2.2⟩, fun z => ⟨⟨z.1, z.2.1, z.2.2.1⟩, z.2.1, z.1, z.2.2.2⟩⟩
    have skip : ¬ eqb sz E f' F k → RR G nc ns m_X0_gather 5 [some (.ref b), some (.int (nI F)), some (.long x), none, some (.int (nI k + 1))] [] h1 Z := fun hne => by
      rw [nI_1]
      refine ih (k + 1) x h1 (by omega) so (fun l => ?_) (fun l hl => ?_)
      · rw [qx l]
        constructor
        · rintro ⟨z1, z2⟩; exact ⟨by omega, z2⟩
        · rintro ⟨z1, z2⟩
          refine ⟨?_, z2⟩
          by_cases el : l = k
          · subst el; exact absurd z2 hne
          · omega
      · rw [qn l hl]
        rw [dc_congr (P := l < k ∧ eqb sz E f' F l) (Q := l < k + 1 ∧ eqb sz E f' F l)]
        constructor
        · rintro ⟨z1, z2⟩; exact ⟨by omega, z2⟩
        · rintro ⟨z1, z2⟩
          refine ⟨?_, z2⟩
          by_cases el : l = k
          · subst el; exact absurd z2 hne
          · omega
    refine s_X0_gather_5 (x1 := nI (sz 0)) (x2 := b2i (bt (hJ h1 (b + 1) F) k)) (x3 := b2i (bt (hJ h1 (b + 1) k) F)) (by rw [o1]; exact k0) (by rw [o3, r0]; omega) (by rw [o3, r0]; exact ev_sizeOf hg1 (s := 0) (by decide)) (by rw [o1, o3, r0]; exact hg.1.1) (fun z => absurd z (nI_ge (by omega) (by omega))) (by rw [rr]; omega) (by rw [o1, rr]; exact k1.1) (fun _ => by rw [o2, rr, k1.2]; exact vp_in_nI (by omega) (by decide)) (fun _ => by rw [rr, cF]; exact ev_contains _ (by omega)) (fun _ z => ?_) (fun _ _ => by rw [o2, rr, k1.2]; exact vp_in_nI (by omega) (by decide)) (fun _ _ => by rw [rr, ck]; exact ev_contains _ (by omega)) (fun _ z1 z2 => ?_) (by rw [rr3]; omega) (by rw [o1, rr3]; exact k2.1) (fun _ _ _ => by rw [o2, rr3, k2.2]; exact vp_in_nI (by omega) (by decide)) (fun _ z1 z2 => ?_)
    · exact skip (fun w => by
        have := (heq.mpr w).1
        rw [b2i_0.mp z] at this; cases this)
    · exact skip (fun w => by
        have := (heq.mpr w).2
        rw [b2i_0.mp z2] at this; cases this)
    · have hy : eqb sz E f' F k := heq.mp ⟨b2i_n.mp z1, b2i_n.mp z2⟩
      rw [nI_1, rr3, ck, i5]
      refine ih (k + 1) _ _ (by omega) (so.trans (SO.sI (by omega) (by omega))) (fun l => ?_) (fun l hl => ?_)
      · rw [bt_or, Bool.or_eq_true, qx l, bt_bit (by omega), decide_eq_true_eq]
        constructor
        · rintro (z | z)
          · exact ⟨by omega, z.2⟩
          · subst z; exact ⟨by omega, hy⟩
        · rintro ⟨z1, z2⟩
          by_cases el : l = k
          · exact Or.inr el
          · exact Or.inl ⟨by omega, z2⟩
      · by_cases el : l = k
        · subst el
          rw [sI_eq, dc_iff.mpr ⟨by omega, hy⟩]; rfl
        · rw [sI_nk el, qn l hl, dc_congr (P := l < k ∧ eqb sz E f' F l) (Q := l < k + 1 ∧ eqb sz E f' F l)]
          constructor
          · rintro ⟨z1, z2⟩; exact ⟨by omega, z2⟩
          · rintro ⟨z1, z2⟩; exact ⟨by omega, z2⟩
theorem ev_gather {F q : Nat} (hg : GS h g m sz E) (hl : PL h p g m) (hb : BL h b p g) (hr : BR h b sz E f') (hF : F < sz 0) (h5 : hI h b 6 = nI q) :
    Ev G m_X0_gather [.ref b, .int (nI F)] h 0 0 (RJ (fun x h1 => SO (b + 2) (b + 3) h h1 ∧ x = ofP (fun l => eqb sz E f' F l) ∧ ∀ l, l < sz 0 → hI h1 (b + 2) l = if dc (eqb sz E f' F l) then nI q else hI h (b + 2) l)) := by
  refine Ev.of pn_X0_gather (Nat.le_of_ble_eq_true rfl) ?_
  refine s_X0_gather_0 ?_
  refine ga_loop hg hl hb hr hF h5 (fun h1 so q => ⟨⟨_, rfl, so, rfl, q⟩, so.2.2.2.1, so.2.2.2.2.1⟩) (sz 0) 0 0 h (by omega) SO.rf (fun l => ?_) (fun l hl => ?_)
  · rw [bt_zero]
    constructor
    · intro z; cases z
    · intro z; exact absurd z.1 (by omega)
  · rw [dc_no.mpr (fun z => absurd z.1 (by omega))]; rfl
/-- blocks that begin before F have their numbers -/
def NA (h1 : PH) (b : Nat) (sz : Nat → Nat) (E : Nat → Nat → Bool) (f' : Nat → Option Nat) (F : Nat) : Prop :=
  hI h1 b 6 = nI (nbs (eqb sz E f') F) ∧ (∀ l, l < sz 0 → hI h1 (b + 2) l = if dc (∃ k, k < F ∧ eqb sz E f' k l) then nI (bn (eqb sz E f') l) else -3) ∧ (∀ q, q < nbs (eqb sz E f') F → ∀ l, bt (hJ h1 (b + 3) q) l = true ↔ inn sz E 0 l ∧ bn (eqb sz E f') l = q) ∧ ∀ q, q < nbs (eqb sz E f') F → ∀ l, bt (hJ h1 (b + 4) q) l = true ↔ inn sz E 0 l ∧ ∃ x, inn sz E 0 x ∧ bn (eqb sz E f') x = q ∧ Cl (stp E f') x l
theorem nbs_le {Q : Nat → Nat → Prop} (n : Nat) : nbs Q n ≤ n := cnt_le n _
theorem na_loop {nc ns : Nat} {Z : Option Value → PH → Prop} (hg : GS h g m sz E) (hl : PL h p g m) (hP : PP h p sz E) (hb : BL h b p g) (hr : BR h b sz E f')
    (hz : ∀ h1, SO b (b + 5) h h1 → hI h1 b 7 = hI h b 7 → BR h1 b sz E f' → NA h1 b sz E f' (sz 0) → Z none h1) : ∀ d F h1, F + d = sz 0 → SO b (b + 5) h h1 → hI h1 b 7 = hI h b 7 → BR h1 b sz E f' → NA h1 b sz E f' F →
    RR G nc ns m_X0_numberAll 26 [some (.ref b), some (.long (hJ h (p + 7 + 0) 1)), none, some (.int (nI F))] [] h1 Z := by
  have hE : Rg (sz 0) (sz 1) E := hg.2.2.2
  have hsm := (hg.2.1 0 (by decide)).2
  have hm := hg.1.2.2.2.2.2.2.2.2.2
  have hin : ∀ i, bt (hJ h (p + 7 + 0) 1) i = true ↔ inn sz E 0 i := (hP 0 (by decide)).2.2
  have hb' := hb
  obtain ⟨k0, r0, r1, r2, r3, r4, k1, k2, k3, p0, pb, r5, k4⟩ := hb
  have g0 := hl.2.2.2.2.2.2.2.2.2.2.2.2.2.2.2.2.2.2.1
  have gp := hl.2.2.2.2.2.2.2.2.2.2.2.2.2.2.2.2.2.2.2
  have hper : PER (eqb sz E f') := eqb_per
  intro d
  induction d with
  | zero =>
    intro F h1 e so i6 hr1 q
    have e : F = sz 0 := by omega
    subst e
    obtain ⟨o1, o2, o3, o4, o5, o6⟩ := id so
    have hg1 := hg.so so (Or.inl (by omega))
    have no : ¬ nI (sz 0) ≤ nI (sz 0) → False := fun z => z (nI_le (Nat.le_refl _) (by omega))
    exact s_X0_numberAll_26 (x1 := nI (sz 0)) (x2 := 0) (P3 := fun _ _ => True) (by rw [o1]; exact k0) (by rw [o3, r0]; omega) (by rw [o3, r0]; exact ev_sizeOf hg1 (s := 0) (by decide)) (by rw [o1, o3, r0]; exact hg.1.1) (fun _ => hz h1 so i6 hr1 q) (fun z => (no z).elim) (fun z => (no z).elim) (by rw [o3, r3]; omega) (by rw [o1, o3, r3]; exact k2.1) (fun z => (no z).elim) (fun z => (no z).elim) (by rw [o3, r4]; omega) (Or.inl (by rw [o1, o3, r4, k3.1]; rfl)) (fun z => (no z).elim) (fun z => (no z).elim) (fun z => (no z).elim)
  | succ d ih =>
    intro F h1 e so i6 hr1 q
    have hF : F < sz 0 := by omega
    obtain ⟨o1, o2, o3, o4, o5, o6⟩ := id so
    have hg1 := hg.so so (Or.inl (by omega))
    have hl1 := hl.so so
    have hb1 := hb'.so so
    have cF : Int32.toNatClampNeg (nI F) = F := nI_clamp (by omega)
    have rr3 : hR h1 b 3 = b + 2 := by rw [o3]; exact r3
    have rr4 : hR h1 b 4 = b + 3 := by rw [o3]; exact r4
    obtain ⟨q5, qn, ql, qo⟩ := id q
    have hnb := nbs_le (Q := eqb sz E f') F
    have skip : ¬ fs (eqb sz E f') F → RR G nc ns m_X0_numberAll 26 [some (.ref b), some (.long (hJ h (p + 7 + 0) 1)), none, some (.int (nI F + 1))] [] h1 Z := fun hne => by
      have en : nbs (eqb sz E f') (F + 1) = nbs (eqb sz E f') F := by
        unfold nbs; rw [cnt, dc_no.mpr hne]; rfl
      have eq : ∀ l, (∃ k, k < F + 1 ∧ eqb sz E f' k l) ↔ ∃ k, k < F ∧ eqb sz E f' k l := fun l => by
        constructor
        · rintro ⟨k, z1, z2⟩
          by_cases ek : k = F
          · subst ek
            have : ¬ ∀ j, j < k → ¬ eqb sz E f' j k := fun w => hne ⟨hper.tr z2 (hper.sy z2), w⟩
            apply Classical.byContradiction
            intro w
            exact this (fun j hj hj2 => w ⟨j, hj, hper.tr hj2 z2⟩)
          · exact ⟨k, by omega, z2⟩
        · rintro ⟨k, z1, z2⟩; exact ⟨k, by omega, z2⟩
      rw [nI_1]
      refine ih (F + 1) h1 (by omega) so i6 hr1 ⟨by rw [en]; exact q5, fun l hl => ?_, by rw [en]; exact ql, by rw [en]; exact qo⟩
      rw [qn l hl, dc_congr (eq l)]
    have hnum : hI h1 (hR h1 b 3) (Int32.toNatClampNeg (nI F)) = -3 ↔ ¬ ∃ k, k < F ∧ eqb sz E f' k F := by
      rw [rr3, cF, qn F hF]
      by_cases w : ∃ k, k < F ∧ eqb sz E f' k F
      · rw [dc_iff.mpr w]
        have hb2 : bn (eqb sz E f') F < 2 ^ 31 := by have := cnt_le F (fun j => dc (fs (eqb sz E f') j ∧ ∀ k, k ≤ j → ¬ eqb sz E f' k F)); unfold bn; omega
        have := (enc_no (o := some (bn (eqb sz E f') F)) (fun v hv => by cases hv; exact hb2)).mp
        constructor
        · intro z; exact absurd (this z) (by simp)
        · intro z; exact absurd w z
      · rw [dc_no.mpr w]
        exact ⟨fun _ => w, fun _ => rfl⟩
    have i5 : hI h1 b 6 = nI (nbs (eqb sz E f') F) := q5
    have c50 : nI (hL h1 (hR h1 b 4)) = nI 50 := by rw [o2, rr4, k3.2]
    refine s_X0_numberAll_26 (x1 := nI (sz 0)) (x2 := b2i (bt (hJ h (p + 7 + 0) 1) F)) (by rw [o1]; exact k0) (by rw [o3, r0]; omega) (by rw [o3, r0]; exact ev_sizeOf hg1 (s := 0) (by decide)) (by rw [o1, o3, r0]; exact hg.1.1) (fun z => absurd z (nI_ge (by omega) (by omega))) (fun _ => ev_contains _ (by omega)) (fun _ z => ?_) (by rw [rr3]; omega) (by rw [o1, rr3]; exact k2.1) (fun _ _ => by rw [o2, rr3, k2.2]; exact vp_in_nI (by omega) (by decide)) (fun _ z1 z2 => ?_) (by rw [rr4]; omega) (Or.inl (by rw [o1, rr4, k3.1]; rfl)) (fun _ _ _ z => ?_) (fun _ _ _ _ => ev_gather hg1 hl1 hb1 hr1 hF q5) (fun _ z1 z2 _ x3 h3 w _ _ => ?_)
    · exact skip (fun w => by
        have := (hin F).mpr w.1.1
        rw [b2i_0.mp z] at this; cases this)
    · exact skip (fun w => z2 (hnum.mpr (fun ⟨k, y1, y2⟩ => w.2 k y1 y2)))
    · rw [c50, i5] at z
      exact absurd z (nI_ge (by omega) (by decide))
    · obtain ⟨so3, wx, wn⟩ := w
      have hnew : fs (eqb sz E f') F := ⟨eqb_rf ((hin F).mp (b2i_n.mp z1)), fun k hk w => hnum.mp z2 ⟨k, hk, w⟩⟩
      have so4 : SO b (b + 5) h h3 := so.trans (so3.wide (by omega) (by omega))
      have en : nbs (eqb sz E f') (F + 1) = nbs (eqb sz E f') F + 1 := by
        unfold nbs; rw [cnt, dc_iff.mpr hnew]; rfl
      have e5 : hI h3 b 6 = nI (nbs (eqb sz E f') F) := by rw [(so3.2.2.2.2.2 b (by omega)).1]; exact q5
      have hbF := bn_fs hnew
      rw [rr4, i5]
      have r3_5 : hR h3 b 5 = b + 4 := by rw [so4.2.2.1]; exact r5
      have r3_2 : hR h3 b 2 = b + 1 := by rw [so4.2.2.1]; exact r2
      refine s_X0_numberAll_82 (by rw [so4.1]; exact k3.1) (by rw [so4.2.1, k3.2]; exact vp_in_nI (by omega) (by decide)) (by rw [so4.1]; exact k0) (by rw [r3_5]; omega) (by rw [r3_2]; omega) (by rw [so4.1, r3_2]; exact k1.1) (by rw [so4.2.1, r3_2, k1.2]; exact vp_in_nI (by omega) (by decide)) (by rw [so4.1, r3_5]; exact k4.1) (by rw [so4.2.1, r3_5, k4.2, e5]; exact vp_in_nI (by omega) (by decide)) ?_
      rw [nI_1, nI_clamp (by omega), e5, nI_1, nI_clamp (by omega), cF, r3_5, r3_2, sJ_ne (by omega)]
      have hrow : ∀ j, bt (hJ h3 (b + 1) F) j = true ↔ inn sz E 0 F ∧ inn sz E 0 j ∧ Cl (stp E f') F j := (hr1.so so3 (Or.inl (by omega))) F hF
      have so5 : SO b (b + 5) h (sI (sJ (sJ h3 (b + 3) (nbs (eqb sz E f') F) x3) (b + 4) (nbs (eqb sz E f') F) (hJ h3 (b + 1) F)) b 6 (nI (nbs (eqb sz E f') F + 1))) := ((so4.trans (SO.sJ (by omega) (by omega))).trans (SO.sJ (by omega) (by omega))).trans (SO.sI (by omega) (by omega))
      refine ih (F + 1) _ (by omega) so5 ?_ ?_ ⟨?_, fun l hl => ?_, fun t ht l => ?_, fun t ht l => ?_⟩
      · rw [sI_nk (by decide), hI_sJ, hI_sJ, (so3.2.2.2.2.2 b (by omega)).1]; exact i6
      · intro l hl j
        rw [hJ_sI, sJ_ne (by omega), sJ_ne (by omega)]
        exact (hr1.so so3 (Or.inl (by omega))) l hl j
      · rw [sI_eq, en]
      · rw [sI_ne (by omega), hI_sJ, hI_sJ, wn l hl, qn l hl]
        by_cases y : eqb sz E f' F l
        · rw [dc_iff.mpr y, (dc_iff (P := ∃ k, k < F + 1 ∧ eqb sz E f' k l)).mpr ⟨F, by omega, y⟩, ← bn_eq hper y, hbF]; rfl
        · rw [dc_no.mpr y]
          rw [dc_congr (P := ∃ k, k < F + 1 ∧ eqb sz E f' k l) (Q := ∃ k, k < F ∧ eqb sz E f' k l)]
          · rfl
          · constructor
            · rintro ⟨k, v1, v2⟩
              by_cases ek : k = F
              · subst ek; exact absurd v2 y
              · exact ⟨k, by omega, v2⟩
            · rintro ⟨k, v1, v2⟩; exact ⟨k, by omega, v2⟩
      · rw [hJ_sI, sJ_ne (by omega)]
        by_cases et : t = nbs (eqb sz E f') F
        · subst et
          rw [sJ_eq, wx, bt_ofP]
          constructor
          · rintro ⟨v1, v2⟩
            exact ⟨v2.2.1, by rw [← bn_eq hper v2]; exact hbF⟩
          · rintro ⟨v1, v2⟩
            refine ⟨by have := v1.1; omega, bn_inj hper hnew.1 (eqb_rf v1) (by rw [v2]; exact hbF)⟩
        · rw [sJ_nk et, (so3.2.2.2.2.2 (b + 3) (by omega)).2]
          exact ql t (by rw [en] at ht; omega) l
      · rw [hJ_sI]
        by_cases et : t = nbs (eqb sz E f') F
        · subst et
          rw [sJ_eq, hrow]
          constructor
          · rintro ⟨v1, v2, v3⟩
            exact ⟨v2, F, v1, hbF, v3⟩
          · rintro ⟨v1, x, v2, v3, v4⟩
            have y := bn_inj hper hnew.1 (eqb_rf v2) (by rw [v3]; exact hbF)
            exact ⟨hnew.1.1, v1, y.2.2.1.trans v4⟩
        · rw [sJ_nk et, sJ_ne (by omega), (so3.2.2.2.2.2 (b + 4) (by omega)).2]
          exact qo t (by rw [en] at ht; omega) l
/-- the blocks are fresh for a pairing's partners -/
def BFx (h : PH) (b : Nat) (sz : Nat → Nat) (E : Nat → Nat → Bool) (f' : Nat → Option Nat) : Prop :=
  BR h b sz E f' ∧ hI h b 6 = nI (nbs (eqb sz E f') (sz 0)) ∧ (∀ l, l < sz 0 → hI h (b + 2) l = if dc (inn sz E 0 l) then nI (bn (eqb sz E f') l) else -3) ∧ (∀ q, q < nbs (eqb sz E f') (sz 0) → ∀ l, bt (hJ h (b + 3) q) l = true ↔ inn sz E 0 l ∧ bn (eqb sz E f') l = q) ∧ ∀ q, q < nbs (eqb sz E f') (sz 0) → ∀ l, bt (hJ h (b + 4) q) l = true ↔ inn sz E 0 l ∧ ∃ x, inn sz E 0 x ∧ bn (eqb sz E f') x = q ∧ Cl (stp E f') x l
def BF (h : PH) (b : Nat) (sz : Nat → Nat) (E : Nat → Nat → Bool) : Prop := ∀ f f', Best (sz 0) E f f' (sz 0) → BFx h b sz E f'
theorem best_full {n k : Nat} {A : Nat → Nat → Bool} {f f' q q' : Nat → Option Nat} (hA : Rg n k A) (hf : Best n A f f' n) (hq : Best n A q q' n) : f = q ∧ f' = q' := by
  have e : f = q := by
    funext l
    rcases Nat.lt_or_ge l n with h | h
    · exact best_unique hf hq l h
    · have e1 : f l = none := by
        cases e : f l with
        | none => rfl
        | some j => have := (hA l j (hf.1.1.2 l j e)).1; omega
      have e2 : q l = none := by
        cases e : q l with
        | none => rfl
        | some j => have := (hA l j (hq.1.1.2 l j e)).1; omega
      rw [e1, e2]
  refine ⟨e, funext (fun j => ?_)⟩
  cases ej : f' j with
  | some i =>
    have := (hf.1.1.1 i j).mpr ej
    rw [e] at this
    exact ((hq.1.1.1 i j).mp this).symm
  | none =>
    cases ek : q' j with
    | none => rfl
    | some i =>
      have := (hq.1.1.1 i j).mpr ek
      rw [← e] at this
      rw [(hf.1.1.1 i j).mp this] at ej; cases ej
theorem NA.fin {h1 : PH} (hr : BR h1 b sz E f') (q : NA h1 b sz E f' (sz 0)) : BFx h1 b sz E f' := by
  refine ⟨hr, q.1, fun l hl => ?_, q.2.2⟩
  rw [q.2.1 l hl, dc_congr (P := ∃ k, k < sz 0 ∧ eqb sz E f' k l) (Q := inn sz E 0 l)]
  exact ⟨fun ⟨k, _, z⟩ => z.2.1, fun z => ⟨l, hl, eqb_rf z⟩⟩
theorem ev_numberAll (hg : GS h g m sz E) (hl : PL h p g m) (hP : PP h p sz E) (hb : BL h b p g) (hr : BR h b sz E f') :
    Ev G m_X0_numberAll [.ref b] h 0 0 (RV (fun h1 => SO b (b + 5) h h1 ∧ hI h1 b 7 = hI h b 7 ∧ BFx h1 b sz E f')) := by
  have hsm := (hg.2.1 0 (by decide)).2
  have hm := hg.1.2.2.2.2.2.2.2.2.2
  have hb' := hb
  obtain ⟨k0, r0, r1, r2, r3, r4, k1, k2, k3, p0, pb, r5, k4⟩ := hb
  have g0 := hl.2.2.2.2.2.2.2.2.2.2.2.2.2.2.2.2.2.2.1
  have gp := hl.2.2.2.2.2.2.2.2.2.2.2.2.2.2.2.2.2.2.2
  refine Ev.of pn_X0_numberAll (Nat.le_of_ble_eq_true rfl) ?_
  refine s_X0_numberAll_0 k0 (by rw [r3]; omega) (by rw [r3]; exact ev_fillI (n := 50) k2.1 k2.2 (by decide)) (fun h1 w _ _ => ?_)
  obtain ⟨so, j1, i1⟩ := w
  have so2 : SO b (b + 5) h (sI h1 b 6 0) := (so.wide (by omega) (by omega)).trans (SO.sI (by omega) (by omega))
  have hl2 := hl.so so2
  obtain ⟨o1, o2, o3, o4, o5, o6⟩ := id so
  have e7 : hJ (sI h1 b 6 0) (p + 7 + 0) 1 = hJ h (p + 7 + 0) 1 := (so2.2.2.2.2.2 (p + 7 + 0) (by omega)).2 1
  have hn := ev_nodesOfPart (G := G) hl2 (s := 0) (q := 1) (by decide) (by decide)
  rw [e7] at hn
  refine s_X0_numberAll_9 (x1 := hJ h (p + 7 + 0) 1) (by rw [o1]; exact k0) (by rw [o3, r1]; omega) (by rw [o3, r1]; exact hn) (by rw [o1, o3, r1]; exact hl.1) ?_
  refine na_loop hg hl hP hb' hr (fun h3 so3 y1 y2 y3 => ⟨⟨rfl, so3, y1, NA.fin y2 y3⟩, so3.2.2.2.1, so3.2.2.2.2.1⟩) (sz 0) 0 _ (by omega) so2 ?_ ?_ ⟨?_, fun l hl => ?_, fun q hq => absurd hq (by simp [nbs, cnt]), fun q hq => absurd hq (by simp [nbs, cnt])⟩
  · rw [sI_nk (by decide), (o6 b (by omega)).1]
  · intro l hl j
    rw [hJ_sI]
    exact (hr.so so (Or.inl (by omega))) l hl j
  · rw [sI_eq]; rfl
  · rw [sI_ne (by omega), i1 l, if_pos (by omega), dc_no.mpr (fun ⟨k, z, _⟩ => absurd z (by omega))]; rfl
theorem ev_refreshB (hg : GS h g m sz E) (hl : PL h p g m) (hF : PF h p m sz E) (hb : BL h b p g) (hk : hI h b 7 = hI h g 3 → BF h b sz E) :
    Ev G m_X0_refresh [.ref b] h 0 0 (RV (fun h1 => SO b (b + 5) h h1 ∧ hI h1 b 7 = hI h g 3 ∧ BF h1 b sz E)) := by
  have hE : Rg (sz 0) (sz 1) E := hg.2.2.2
  have hb' := hb
  obtain ⟨k0, r0, r1, r2, r3, r4, k1, k2, k3, p0, pb, r5, k4⟩ := hb
  have g0 := hl.2.2.2.2.2.2.2.2.2.2.2.2.2.2.2.2.2.2.1
  have gp := hl.2.2.2.2.2.2.2.2.2.2.2.2.2.2.2.2.2.2.2
  obtain ⟨mt, q1, q2, q3, q4⟩ := hF
  have so1 : SO b (b + 5) h (sI h b 7 (hI h g 3)) := SO.sI (by omega) (by omega)
  have hg1 := hg.so so1 (Or.inl (by omega))
  refine Ev.of pn_X0_refresh (Nat.le_of_ble_eq_true rfl) ?_
  refine s_X0_refresh_0 (x1 := hI h g 3) (x2 := hI h g 3) k0 (by rw [r0]; omega) (by rw [r0]; exact ev_changes hg.1) (by rw [r0]; exact hg.1.1) (fun _ => by rw [r0]; exact ev_changes hg.1) (fun _ => ev_findReached hg1 (hl.so so1) (q1.so so1 (Or.inl (by omega))) (q4.so so1 (Or.inl (by omega))) q2.1 (hb'.so so1)) (fun _ h3 w _ _ => ?_) (fun z => ⟨⟨rfl, SO.rf, z, hk z⟩, rfl, rfl⟩)
  obtain ⟨so2, w⟩ := w
  have so3 := so1.trans (so2.wide (by omega) (by omega))
  refine s_X0_refresh_30 (ev_numberAll (hg.so so3 (Or.inl (by omega))) (hl.so so3) (q4.so so3 (Or.inl (by omega))) (hb'.so so3) w) (by rw [so3.1]; exact k0) (fun h4 y _ _ => s_X0_refresh_34 ?_)
  obtain ⟨so4, y1, y2⟩ := y
  have so5 := so3.trans so4
  refine ⟨⟨rfl, so5, ?_, fun f f' hf => ?_⟩, so5.2.2.2.1, so5.2.2.2.2.1⟩
  · rw [y1, (so2.2.2.2.2.2 b (by omega)).1, sI_eq]
  · rw [← (best_full hE q2 hf).2]; exact y2
end NUMALL
