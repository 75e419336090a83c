section PAIR2
variable {G : GG} {h : PH} {p g m : Nat} {sz : Nat → Nat} {E : Nat → Nat → Bool} {mt : Nat → Nat → Option Nat} {op : Nat → Nat → Bool}
theorem ev_loosen (hl : PL h p g m) (hp : PS h p m mt op) {s i : Nat} (hs : s < 2) (hi : i < m) : Ev G m_X3_loosen [.ref p, .int (nI s), .int (nI i)] h 0 0 (RV (fun h' => SO (p + 2) (p + 5) h h' ∧ ((mt s i = none ∧ PS h' p m mt op) ∨ ∃ j, mt s i = some j ∧ PS h' p m (looM mt s i j) op))) := by
  obtain ⟨k0, r0, r1, r2, r3, r4, r5, r6, k1, n1, ks, kp, ko, kt, kts, kq, kc, hm, g0, gp⟩ := hl
  have hp' := hp
  obtain ⟨q1, q2, q3, q4⟩ := hp
  have hs' : 1 - s < 2 := by omega
  obtain ⟨a1, a2, a3⟩ := ks s hs
  obtain ⟨b1, b2, b3⟩ := ks (1 - s) hs'
  have cs : Int32.toNatClampNeg (nI s) = s := nI_clamp (by omega)
  have ci : Int32.toNatClampNeg (nI i) = i := nI_clamp (by omega)
  have co : Int32.toNatClampNeg (1 - nI s) = 1 - s := by rw [one_sub s hs]; exact nI_clamp (by omega)
  have vo : vp_in (1 - nI s) 2 := by rw [one_sub s hs]; exact vp_in_nI hs' (by decide)
  have ev : hI h (hR h (hR h p 1) (Int32.toNatClampNeg (nI s))) (Int32.toNatClampNeg (nI i)) = enc (mt s i) := by rw [r1, cs, a3, ci]; exact q1 s hs i hi
  have en := enc_no (o := mt s i) (fun r hr => by have := q2 s hs i r hr; omega)
  refine Ev.of pn_X3_loosen (Nat.le_of_ble_eq_true rfl) ?_
  refine s_X3_loosen_0 k0 (by rw [r1]; omega) (Or.inl (by rw [r1]; exact k1)) (by rw [r1, n1]; exact vp_in_nI hs (by decide)) (by rw [r1, cs, a3]; omega) (by rw [r1, cs, a3]; exact a1) (by rw [r1, cs, a3, a2]; exact vp_in_nI hi (by omega)) (fun z => ?_) (fun _ => by rw [r1, n1]; exact vo) (fun _ => by rw [r1, co, b3]; omega) (fun _ => by rw [r1, co, b3]; exact b1) (fun z => ?_) (by rw [r2]; omega) (by rw [r2]; exact kp.1) (fun _ => by rw [r2, kp.2]; exact vp_in_nI hs (by decide)) (fun _ => by rw [r2, kp.2]; exact vo) (fun z => ?_)
  · rw [ev] at z
    exact ⟨⟨rfl, SO.rf, Or.inl ⟨en.mp z, hp'⟩⟩, rfl, rfl⟩
  · rw [ev] at z ⊢
    obtain ⟨j, hj⟩ : ∃ j, mt s i = some j := by
      cases e : mt s i with
      | none => exact absurd (en.mpr e) z
      | some j => exact ⟨j, rfl⟩
    rw [hj, r1, co, b3, b2]
    exact vp_in_nI (q2 s hs i j hj).2 (by omega)
  · rw [ev] at z
    obtain ⟨j, hj⟩ : ∃ j, mt s i = some j := by
      cases e : mt s i with
      | none => exact absurd (en.mpr e) z
      | some j => exact ⟨j, rfl⟩
    have hjm := (q2 s hs i j hj).2
    have cj : Int32.toNatClampNeg (enc (mt s i)) = j := by rw [hj]; exact nI_clamp (by omega)
    rw [ev, cj, r1, r2, cs, ci, co, a3, b3, sJ_nk (show 1 - s ≠ s by omega), show enc (mt s i) = nI j by rw [hj]; rfl]
    refine ⟨⟨rfl, ?_, Or.inr ⟨j, hj, fun t ht k hk => ?_, fun t ht k v hkv => ?_, fun t ht k => ?_, fun t ht k => ?_⟩⟩, rfl, rfl⟩
    · exact (((SO.sI (by omega) (by omega)).trans (SO.sI (by omega) (by omega))).trans (SO.sJ (by omega) (by omega))).trans (SO.sJ (by omega) (by omega))
    · rw [hI_sJ, hI_sJ]
      unfold looM
      by_cases e1 : t = 1 - s ∧ k = j
      · obtain ⟨e1, e2⟩ := e1
        subst e2
        rw [e1, sI_eq, if_pos (Or.inr ⟨rfl, rfl⟩)]; rfl
      · by_cases e2 : t = s ∧ k = i
        · obtain ⟨e3, e4⟩ := e2
          subst e3; subst e4
          rw [sI_ne (by omega), sI_eq, if_pos (Or.inl ⟨rfl, rfl⟩)]; rfl
        · rw [if_neg (by rintro (z1 | z1); exact e2 z1; exact e1 z1)]
          have x1 : hI (sI (sI h (p + 2 + s) i (-3)) (p + 2 + (1 - s)) j (-3)) (p + 2 + t) k = hI h (p + 2 + t) k := by
            rw [hI_sI, if_neg (fun z1 => e1 ⟨by omega, z1.2⟩), hI_sI, if_neg (fun z1 => e2 ⟨by omega, z1.2⟩)]
          rw [x1]; exact q1 t ht k hk
    · unfold looM at hkv
      split at hkv
      · cases hkv
      · exact q2 t ht k v hkv
    · unfold looM
      by_cases ets : t = s
      · subst ets
        rw [sJ_nk (by omega), sJ_eq, bt_off (by omega), q3 t ht k]
        by_cases e : k = i
        · subst e; rw [if_pos (Or.inl ⟨rfl, rfl⟩)]; simp
        · rw [if_neg (by rintro (z1 | z1); exact e z1.2; omega)]; simp [e]
      · have et : t = 1 - s := by omega
        subst et
        rw [sJ_eq, bt_off (by omega), q3 (1 - s) ht k]
        by_cases e : k = j
        · subst e; rw [if_pos (Or.inr ⟨rfl, rfl⟩)]; simp
        · rw [if_neg (by rintro (z1 | z1); omega; exact e z1.2)]; simp [e]
    · rw [sJ_ne (by omega), sJ_ne (by omega)]; exact q4 t ht k
/-- the partners of a set's members -/
def mSet (sz : Nat → Nat) (mt : Nat → Nat → Option Nat) (s : Nat) (set : Int64) (j : Nat) : Prop := ∃ i, i < sz s ∧ bt set i = true ∧ mt s i = some j
theorem mo_loop {nc ns : Nat} {Z : Option Value → PH → Prop} (hg : GS h g m sz E) (hl : PL h p g m) (hp : PS h p m mt op) {s : Nat} (hs : s < 2) (set : Int64) (hz : Z (some (.long (ofP (mSet sz mt s set)))) h) : ∀ c (found rest : Int64), cnt 64 (bt rest) = c → (∀ i, bt rest i = true → i < sz s ∧ bt set i = true) → (∀ j, j < 64 → (bt found j = true ↔ ∃ i, (i < sz s ∧ bt set i = true ∧ bt rest i = false) ∧ mt s i = some j)) →
    RR G nc ns m_X3_matesOf 22 [some (.ref p), some (.int (nI s)), some (.long set), none, some (.long found), none, some (.long rest), none, some (.int (nI c)), none] [] h Z := by
  have hsm := (hg.2.1 s hs).2
  obtain ⟨k0, r0, r1, r2, r3, r4, r5, r6, k1, n1, ks, kp, ko, kt, kts, kq, kc, hm, g0, gp⟩ := hl
  obtain ⟨q1, q2, q3, q4⟩ := hp
  obtain ⟨a1, a2, a3⟩ := ks s hs
  have cs : Int32.toNatClampNeg (nI s) = s := nI_clamp (by omega)
  intro c
  induction c with
  | zero =>
    intro found rest hc h1 h2
    have h0 := cnt_zero.mp hc
    have no : ¬ nI 0 ≤ 0 → False := fun z => z (by decide)
    have ef : found = ofP (mSet sz mt s set) := by
      apply eq_ofP
      intro k hk
      rw [h2 k hk]
      constructor
      · rintro ⟨i, z1, z2⟩; exact ⟨i, z1.1, z1.2.1, z2⟩
      · rintro ⟨i, z1, z2, z3⟩; exact ⟨i, ⟨z1, z2, h0 i (by omega)⟩, z3⟩
    rw [ef]
    exact s_X3_matesOf_22 (x1 := 0) (fun _ => hz) k0 (by rw [r1]; omega) (Or.inl (by rw [r1]; exact k1)) (fun z => (no z).elim) (fun z => (no z).elim) (fun z => (no z).elim) (fun z => (no z).elim) (fun z => (no z).elim) (fun z => (no z).elim) (fun z => (no z).elim)
  | succ c ih =>
    intro found rest hc h1 h2
    have hne : rest ≠ 0 := by
      intro e
      rw [e, cnt_zero.mpr (fun i _ => bt_zero i)] at hc
      omega
    obtain ⟨k, hk, hb1, hb2⟩ := bt_least hne
    have hks := h1 k hb1
    have cc : c + 1 ≤ 64 := by rw [← hc]; exact cnt_le _ _
    have ck : Int32.toNatClampNeg (nI k) = k := nI_clamp (by omega)
    have en := enc_no (o := mt s k) (fun r hr => by have := q2 s hs k r hr; omega)
    have ev : hI h (hR h (hR h p 1) (Int32.toNatClampNeg (nI s))) (Int32.toNatClampNeg (nI k)) = enc (mt s k) := by rw [r1, cs, a3, ck]; exact q1 s hs k (by omega)
    have hc' : cnt 64 (bt (rest &&& (rest - 1))) = c := by
      have e1 := cnt_off (n := 64) hk hb1
      have e2 : cnt 64 (bt (rest &&& (rest - 1))) = cnt 64 (fun j => bt rest j && !decide (j = k)) := cnt_congr (fun i _ => bt_rest hb1 hb2 i)
      omega
    have h1' : ∀ i, bt (rest &&& (rest - 1)) i = true → i < sz s ∧ bt set i = true := fun i hi => by
      rw [bt_rest hb1 hb2, Bool.and_eq_true] at hi
      exact h1 i hi.1
    refine s_X3_matesOf_22 (x1 := nI k) (fun z => absurd z (nI_nle (by omega) (by omega))) k0 (by rw [r1]; omega) (Or.inl (by rw [r1]; exact k1)) (fun _ => by rw [r1, n1]; exact vp_in_nI hs (by decide)) (fun _ => by rw [r1, cs, a3]; omega) (fun _ => ev_lowest hb1 hb2) (fun _ => by rw [r1, cs, a3]; exact a1) (fun _ => by rw [r1, cs, a3, a2]; exact vp_in_nI (by omega) (by omega)) (fun _ z => ?_) (fun _ z => ?_)
    · rw [ev] at z
      rw [pk_m1]
      refine ih found _ hc' h1' (fun j hj => ?_)
      rw [h2 j hj]
      have hn := en.mp z
      constructor
      · rintro ⟨i, z1, z2⟩
        exact ⟨i, ⟨z1.1, z1.2.1, by rw [bt_rest hb1 hb2, z1.2.2]; rfl⟩, z2⟩
      · rintro ⟨i, z1, z2⟩
        refine ⟨i, ⟨z1.1, z1.2.1, ?_⟩, z2⟩
        have z3 := z1.2.2
        rw [bt_rest hb1 hb2] at z3
        by_cases e : i = k
        · rw [e, hn] at z2; cases z2
        · simpa [e] using z3
    · rw [ev] at z ⊢
      obtain ⟨v, hv⟩ : ∃ v, mt s k = some v := by
        cases e : mt s k with
        | none => exact absurd (en.mpr e) z
        | some v => exact ⟨v, rfl⟩
      have hvm := (q2 s hs k v hv).2
      rw [pk_m1, hv]
      refine ih _ _ hc' h1' (fun j hj => ?_)
      rw [bt_or, Bool.or_eq_true, h2 j hj, show enc (some v) = nI v from rfl, bt_bit (by omega)]
      constructor
      · rintro (⟨i, z1, z2⟩ | z1)
        · exact ⟨i, ⟨z1.1, z1.2.1, by rw [bt_rest hb1 hb2, z1.2.2]; rfl⟩, z2⟩
        · have e := of_decide_eq_true z1
          exact ⟨k, ⟨hks.1, hks.2, by rw [bt_rest hb1 hb2]; simp⟩, by rw [e]; exact hv⟩
      · rintro ⟨i, z1, z2⟩
        by_cases e : i = k
        · right
          rw [e, hv] at z2
          cases z2
          simp
        · left
          refine ⟨i, ⟨z1.1, z1.2.1, ?_⟩, z2⟩
          have z3 := z1.2.2
          rw [bt_rest hb1 hb2] at z3
          simpa [e] using z3
theorem ev_matesOf (hg : GS h g m sz E) (hl : PL h p g m) (hp : PS h p m mt op) {s : Nat} (hs : s < 2) (set : Int64) : Ev G m_X3_matesOf [.ref p, .int (nI s), .long set] h 0 0 (Ret (some (.long (ofP (mSet sz mt s set)))) h) := by
  have hsm := (hg.2.1 s hs).2
  have hl' := hl
  obtain ⟨k0, r0, r1, r2, r3, r4, r5, r6, k1, n1, ks, kp, ko, kt, kts, kq, kc, hm, g0, gp⟩ := hl
  have hset : ∀ i, bt (set &&& allv (sz s)) i = true ↔ i < sz s ∧ bt set i = true := fun i => by
    rw [bt_and, bt_all (by omega), Bool.and_eq_true, decide_eq_true_eq]
    exact ⟨fun z => ⟨z.2, z.1⟩, fun z => ⟨z.2, z.1⟩⟩
  refine Ev.of pn_X3_matesOf (Nat.le_of_ble_eq_true rfl) ?_
  refine s_X3_matesOf_0 k0 (by rw [r0]; omega) (by rw [r0]; exact ev_all hg hs) (by rw [r0]; exact hg.1.1) (ev_bc64 _) ?_
  refine mo_loop hg hl' hp hs set Zok _ 0 _ rfl (fun i hi => (hset i).mp hi) (fun j hj => ?_)
  rw [bt_zero]
  constructor
  · intro z; cases z
  · rintro ⟨i, z1, z2⟩
    have := (hset i).mpr ⟨z1.1, z1.2.1⟩
    rw [z1.2.2] at this; cases this
end PAIR2
