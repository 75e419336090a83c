section REACH
/-- what can be come to by steps, each over an edge to an open node and back with its partner: in every set that has the starts and is closed -/
def Rch (E : Nat → Nat → Bool) (mt : Nat → Nat → Option Nat) (op : Nat → Nat → Bool) (s : Nat) (st : Nat → Prop) (i : Nat) : Prop := ∀ P : Nat → Prop, (∀ a, st a → P a) → (∀ a b c, P a → ad E s a b = true → op (1 - s) b = true → mt (1 - s) b = some c → P c) → P i
theorem Rch.start {E : Nat → Nat → Bool} {mt : Nat → Nat → Option Nat} {op : Nat → Nat → Bool} {s : Nat} {st : Nat → Prop} {i : Nat} (h : st i) : Rch E mt op s st i := fun _ h1 _ => h1 i h
theorem Rch.step {E : Nat → Nat → Bool} {mt : Nat → Nat → Option Nat} {op : Nat → Nat → Bool} {s : Nat} {st : Nat → Prop} {a b c : Nat} (h : Rch E mt op s st a) (h1 : ad E s a b = true) (h2 : op (1 - s) b = true) (h3 : mt (1 - s) b = some c) : Rch E mt op s st c := fun P p1 p2 => p2 a b c (h P p1 p2) h1 h2 h3
variable {G : GG} {h : PH} {p g m : Nat} {sz : Nat → Nat} {E : Nat → Nat → Bool} {mt : Nat → Nat → Option Nat} {op : Nat → Nat → Bool}
theorem re_loop {nc ns : Nat} {Z : Option Value → PH → Prop} (hg : GS h g m sz E) (hl : PL h p g m) (hp : PS h p m mt op) {s : Nat} (hs : s < 2) (set : Int64) (hop : ∀ b, op (1 - s) b = true → b < sz (1 - s)) (hmt : ∀ b c, mt (1 - s) b = some c → c < sz s)
    (hz : Z (some (.long (ofP (Rch E mt op s (fun i => bt set i = true))))) h) : ∀ d t (R Wt Q : Int64), t + d = m → (∀ i, bt R i = true → i < sz s ∧ Rch E mt op s (fun i => bt set i = true) i) → (∀ i, bt Wt i = true → bt R i = true) → (∀ i, bt set i = true → bt R i = true) → (∀ b, bt Q b = true → op (1 - s) b = true) →
    (∀ a b, bt R a = true → bt Wt a = false → ad E s a b = true → op (1 - s) b = true → bt Q b = false) → (∀ b c, op (1 - s) b = true → bt Q b = false → mt (1 - s) b = some c → bt R c = true) → cnt 64 (fun i => bt R i && !bt Wt i) = t →
    RR G nc ns m_X3_reach 19 [some (.ref p), some (.int (nI s)), some (.long set), none, some (.long R), none, some (.long Wt), none, some (.long Q), none, some (.int (nI t)), none, none, none, none] [] h Z := by
  have hsm := (hg.2.1 s hs).2
  have hl' := hl
  obtain ⟨k0, r0, r1, r2, r3, r4, r5, r6, k1, n1, ks, kp, ko, kt, kts, kq, kc, hm, g0, gp⟩ := hl
  have c1 : hR h p 0 ≠ 0 := by rw [r0]; omega
  have c2 : hK h (hR h p 0) = 11 := by rw [r0]; exact hg.1.1
  have e3 : Ev G m_X1_most [.ref (hR h p 0)] h 0 0 (Ret (some (.int (nI m))) h) := by rw [r0]; exact ev_most hg.1
  -- with nothing waiting, the set is closed
  have fin : ∀ (R Wt Q : Int64), (∀ i, bt R i = true → i < sz s ∧ Rch E mt op s (fun i => bt set i = true) i) → (∀ i, bt set i = true → bt R i = true) → (∀ a b, bt R a = true → bt Wt a = false → ad E s a b = true → op (1 - s) b = true → bt Q b = false) → (∀ b c, op (1 - s) b = true → bt Q b = false → mt (1 - s) b = some c → bt R c = true) → (∀ i, bt Wt i = false) → R = ofP (Rch E mt op s (fun i => bt set i = true)) := by
    intro R Wt Q h1 h3 h5 h6 h8
    apply eq_ofP
    intro k hk
    refine ⟨fun z => (h1 k z).2, fun z => z (fun i => bt R i = true) (fun a ha => h3 a ha) (fun a b c pa ab ob bc => h6 b c ob (h5 a b pa (h8 a) ab ob) bc)⟩
  intro d
  induction d with
  | zero =>
    intro t R Wt Q ht h1 h2 h3 h4 h5 h6 h7
    have e : t = m := by omega
    have hw : ∀ i, bt Wt i = false := by
      intro i
      cases ew : bt Wt i with
      | false => rfl
      | true =>
        exfalso
        have hR := h2 i ew
        have him : i < m := by have := (h1 i hR).1; omega
        -- i is not counted, so fewer than m are
        have z1 : cnt 64 (fun j => bt R j && !bt Wt j) ≤ cnt 64 (fun j => decide (j < m) && !decide (j = i)) := by
          apply cnt_mono
          intro j hj
          rw [Bool.and_eq_true] at hj
          have z2 := (h1 j hj.1).1
          have z3 : ¬ j = i := fun e => by rw [e, ew] at hj; simp at hj
          have z4 : j < m := by omega
          simp [z3, z4]
        have z5 := cnt_off (n := 64) (k := i) (p := fun j => decide (j < m)) (by omega) (by simpa using him)
        rw [cnt_lt (by omega)] at z5
        omega
    rw [fin R Wt Q h1 h3 h5 h6 hw, e]
    have no : ¬ nI m ≤ nI m → False := fun z => z (nI_le (Nat.le_refl _) (by omega))
    exact s_X3_reach_19 (x2 := 0) (x3 := 0) (x4 := 0) k0 c1 e3 c2 (fun _ => hz) (fun z => (no z).elim) (fun z => (no z).elim) (fun z => (no z).elim) (fun z => (no z).elim) (fun z => (no z).elim)
  | succ d ih =>
    intro t R Wt Q ht h1 h2 h3 h4 h5 h6 h7
    by_cases hw0 : Wt = 0
    · subst hw0
      rw [fin R 0 Q h1 h3 h5 h6 (fun i => bt_zero i)]
      have no : ¬ lg_cmp 0 0 = 0 → False := fun z => z (lg0.mpr rfl)
      exact s_X3_reach_19 (x2 := 0) (x3 := 0) (x4 := 0) k0 c1 e3 c2 (fun _ => hz) (fun _ _ => hz) (fun _ z => (no z).elim) (fun _ z => (no z).elim) (fun _ z => (no z).elim) (fun _ z => (no z).elim)
    · obtain ⟨a, ha, hb1, hb2⟩ := bt_least hw0
      have hRa := h2 a hb1
      obtain ⟨has, hra⟩ := h1 a hRa
      have hrow : ∀ b, bt (hJ h (g + 3 + s) a) b = ad E s a b := fun b => hg.2.2.1 s hs a (by omega) b
      have hs' : 1 - s < 2 := by omega
      refine s_X3_reach_19 (x2 := nI a) (x3 := hJ h (g + 3 + s) a) (x4 := ofP (mSet sz mt (1 - s) (hJ h (g + 3 + s) a &&& Q))) k0 c1 e3 c2 (fun z => absurd z (nI_ge (by omega) (by omega))) (fun _ z => absurd (lg0.mp z) hw0) (fun _ _ => ev_lowest hb1 hb2) (fun _ _ => by rw [r0]; exact ev_across hg hs has) (fun _ _ => by rw [one_sub s hs]; exact ev_matesOf hg hl' hp hs' _) (fun _ _ => ?_)
      rw [nI_1]
      have hF : ∀ b, bt (hJ h (g + 3 + s) a &&& Q) b = true ↔ ad E s a b = true ∧ bt Q b = true := fun b => by rw [bt_and, hrow, Bool.and_eq_true]
      have hfound : ∀ c, bt (ofP (mSet sz mt (1 - s) (hJ h (g + 3 + s) a &&& Q)) &&& (R ^^^ (-1))) c = true ↔ (∃ b, ad E s a b = true ∧ bt Q b = true ∧ mt (1 - s) b = some c) ∧ bt R c = false := fun c => by
        rw [bt_and, bt_not, Bool.and_eq_true, Bool.and_eq_true, bt_ofP]
        constructor
        · rintro ⟨⟨z1, b, z2, z3, z4⟩, z5, z6⟩
          exact ⟨⟨b, ((hF b).mp z3).1, ((hF b).mp z3).2, z4⟩, by simpa using z5⟩
        · rintro ⟨⟨b, z1, z2, z3⟩, z4⟩
          have z5 := hmt b c z3
          exact ⟨⟨by omega, b, hop b (h4 b z2), (hF b).mpr ⟨z1, z2⟩, z3⟩, by rw [z4]; rfl, by simp; omega⟩
      generalize hX : (ofP (mSet sz mt (1 - s) (hJ h (g + 3 + s) a &&& Q)) &&& (R ^^^ (-1))) = X at hfound
      have hR' : ∀ i, bt (R ||| X) i = true ↔ bt R i = true ∨ bt X i = true := fun i => by rw [bt_or, Bool.or_eq_true]
      have hW' : ∀ i, bt ((Wt &&& (Wt - 1)) ||| X) i = true ↔ (bt Wt i = true ∧ i ≠ a) ∨ bt X i = true := fun i => by
        rw [bt_or, Bool.or_eq_true, bt_rest hb1 hb2, Bool.and_eq_true]
        simp
      have hQ' : ∀ b, bt (Q &&& ((hJ h (g + 3 + s) a &&& Q) ^^^ (-1))) b = true ↔ bt Q b = true ∧ ad E s a b = false := fun b => by
        rw [bt_and, bt_not, bt_and, hrow, Bool.and_eq_true]
        constructor
        · rintro ⟨z1, z2⟩
          refine ⟨z1, ?_⟩
          rw [z1] at z2
          cases e : ad E s a b
          · rfl
          · rw [e] at z2; simp at z2
        · rintro ⟨z1, z2⟩
          refine ⟨z1, ?_⟩
          have hb64 : b < 64 := by
            rcases Nat.lt_or_ge b 64 with q | q
            · exact q
            · rw [bt_big q] at z1; cases z1
          rw [z2]; simp [hb64]
      refine ih (t + 1) _ _ _ (by omega) (fun i hi => ?_) (fun i hi => ?_) (fun i hi => ?_) (fun b hb => ?_) (fun a' b z1 z2 z3 z4 => ?_) (fun b c z1 z2 z3 => ?_) ?_
      · rcases (hR' i).mp hi with z | z
        · exact h1 i z
        · obtain ⟨⟨b, z1, z2, z3⟩, -⟩ := (hfound i).mp z
          exact ⟨hmt b i z3, hra.step z1 (h4 b z2) z3⟩
      · rw [hR']
        rcases (hW' i).mp hi with z | z
        · exact Or.inl (h2 i z.1)
        · exact Or.inr z
      · rw [hR']; exact Or.inl (h3 i hi)
      · exact h4 b ((hQ' b).mp hb).1
      · -- a processed node
        have z5 : bt Q b = false ∨ ad E s a b = true := by
          rcases (hR' a').mp z1 with z | z
          · by_cases e : a' = a
            · subst e; exact Or.inr z3
            · have : bt Wt a' = false := by
                cases ew : bt Wt a' with
                | false => rfl
                | true => rw [(hW' a').mpr (Or.inl ⟨ew, e⟩)] at z2; cases z2
              exact Or.inl (h5 a' b z this z3 z4)
          · rw [(hW' a').mpr (Or.inr z)] at z2; cases z2
        cases eq : bt (Q &&& ((hJ h (g + 3 + s) a &&& Q) ^^^ (-1))) b with
        | false => rfl
        | true =>
          obtain ⟨y1, y2⟩ := (hQ' b).mp eq
          rcases z5 with z | z
          · rw [z] at y1; cases y1
          · rw [z] at y2; cases y2
      · rw [hR']
        by_cases eb : bt Q b = true
        · have eab : ad E s a b = true := by
            cases e : ad E s a b with
            | true => rfl
            | false => rw [(hQ' b).mpr ⟨eb, e⟩] at z2; cases z2
          cases er : bt R c with
          | true => exact Or.inl rfl
          | false => exact Or.inr ((hfound c).mpr ⟨⟨b, eab, eb, z3⟩, er⟩)
        · exact Or.inl (h6 b c z1 (by simpa using eb) z3)
      · -- one node more is done
        have z1 : cnt 64 (fun i => bt (R ||| X) i && !bt ((Wt &&& (Wt - 1)) ||| X) i) = cnt 64 (fun i => (bt R i && !bt Wt i) || decide (i = a)) := by
          apply cnt_congr
          intro i hi
          rw [Bool.eq_iff_iff, Bool.and_eq_true, Bool.or_eq_true, Bool.and_eq_true, hR', Bool.not_eq_true', Bool.not_eq_true', decide_eq_true_eq]
          have hWf : bt ((Wt &&& (Wt - 1)) ||| X) i = false ↔ ¬ ((bt Wt i = true ∧ i ≠ a) ∨ bt X i = true) := by
            rw [← hW' i]; simp
          rw [hWf]
          constructor
          · rintro ⟨y1, y2⟩
            by_cases e : i = a
            · exact Or.inr e
            · left
              rcases y1 with y | y
              · refine ⟨y, ?_⟩
                cases ew : bt Wt i with
                | false => rfl
                | true => exact absurd (Or.inl ⟨ew, e⟩) y2
              · exact absurd (Or.inr y) y2
          · rintro (⟨y1, y2⟩ | y)
            · refine ⟨Or.inl y1, ?_⟩
              rintro (y3 | y3)
              · rw [y2] at y3; cases y3.1
              · have := ((hfound i).mp y3).2
                rw [y1] at this; cases this
            · subst y
              refine ⟨Or.inl hRa, ?_⟩
              rintro (y3 | y3)
              · exact y3.2 rfl
              · have := ((hfound i).mp y3).2
                rw [hRa] at this; cases this
        rw [z1]
        have z2 := cnt_off (n := 64) (k := a) (p := fun i => (bt R i && !bt Wt i) || decide (i = a)) ha (by simp)
        rw [z2]
        have z3 : cnt 64 (fun j => ((bt R j && !bt Wt j) || decide (j = a)) && !decide (j = a)) = cnt 64 (fun i => bt R i && !bt Wt i) := by
          apply cnt_congr
          intro i hi
          by_cases e : i = a
          · subst e; rw [hb1]; simp
          · simp [e]
        rw [z3, h7]
theorem ev_reach (hg : GS h g m sz E) (hl : PL h p g m) (hp : PS h p m mt op) {s : Nat} (hs : s < 2) (set : Int64) (hop : ∀ b, op (1 - s) b = true → b < sz (1 - s)) (hmt : ∀ b c, mt (1 - s) b = some c → c < sz s) (hset : ∀ i, bt set i = true → i < sz s) : Ev G m_X3_reach [.ref p, .int (nI s), .long set] h 0 0 (Ret (some (.long (ofP (Rch E mt op s (fun i => bt set i = true))))) h) := by
  have hl' := hl
  obtain ⟨k0, r0, r1, r2, r3, r4, r5, r6, k1, n1, ks, kp, ko, kt, kts, kq, kc, hm, g0, gp⟩ := hl
  refine Ev.of pn_X3_reach (Nat.le_of_ble_eq_true rfl) ?_
  refine s_X3_reach_0 k0 (by rw [r3]; omega) (by rw [r3]; exact ko.1) (by rw [r3, ko.2, one_sub s hs]; exact vp_in_nI (by omega) (by decide)) ?_
  rw [r3, one_sub s hs, nI_clamp (by omega)]
  refine re_loop hg hl' hp hs set hop hmt Zok m 0 set set _ (by omega) (fun i hi => ⟨hset i hi, Rch.start hi⟩) (fun i hi => hi) (fun i hi => hi) (fun b hb => ?_) (fun a b z1 z2 => ?_) (fun b c z1 z2 z3 => ?_) ?_
  · rw [hp.2.2.2 (1 - s) (by omega) b] at hb; exact hb
  · rw [z1] at z2; cases z2
  · rw [hp.2.2.2 (1 - s) (by omega) b, z1] at z2; cases z2
  · rw [cnt_zero]
    intro i hi
    cases bt set i <;> rfl
end REACH
