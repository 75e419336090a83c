section LEN2
variable {G : GG} {h : PH} {p g m : Nat} {sz : Nat → Nat} {E : Nat → Nat → Bool} {mt : Nat → Nat → Option Nat} {op : Nat → Nat → Bool}
theorem out_loop {nc ns : Nat} {Z : Option Value → PH → Prop} {st : Int64} (hg : GS h g m sz E) (hl : PL h p g m) (hp : PS h p m mt op) (hM : IsM E (mt 0) (mt 1)) (hoc : ∀ l b, mt 0 l = some b → op 0 l = op 1 b)
    (hz0 : ∀ h1, SO (p + 9) (p + 11) h h1 → Cert E mt op → Z (some (.int 0)) h1) (hz1 : ∀ h1, SO (p + 2) (p + 11) h h1 → Longer h p m (sz 0) E mt op h1 → Z (some (.int 1)) h1) : ∀ d head tail rest q h1, head + d = m + 1 → BI h p (sz 0) E mt op tail head rest 0 q h1 →
    RR G nc ns m_X3_lengthen 61 [some (.ref p), some (.int (nI tail)), some (.long st), none, some (.long rest), none, some (.int (nI head)), none, none, none, none, none, none] [] h1 Z := by
  have hl' := hl
  obtain ⟨k0, r0, r1, r2, r3, r4, r5, r6, k1, n1, ks, kp, ko, kt, kts, kq, kc, hm, g0, gp⟩ := hl
  have hsm := (hg.2.1 0 (by decide)).2
  intro d
  induction d with
  | zero =>
    intro head tail rest q h1 e hB
    have htn : tail ≤ sz 0 := inj_le q (fun i hi => (hB.2.1 i hi).2.2) hB.2.2.1
    have := hB.2.2.2.2.2.2.2.2.2
    omega
  | succ d ih =>
    intro head tail rest q h1 e hB
    obtain ⟨b1, b2, b3, b4, b5, b6, b7, b8, b9, b10⟩ := id hB
    obtain ⟨o1, o2, o3, o4, o5, o6⟩ := id b1
    have htn : tail ≤ sz 0 := inj_le q (fun i hi => (b2 i hi).2.2) b3
    by_cases hht : head < tail
    · obtain ⟨w1, w2, w3⟩ := b2 head hht
      have hg1 : GS h1 g m sz E := hg.so b1 (by omega)
      have e5 : hR h1 p 5 = p + 9 := by rw [o3]; exact r5
      have ch : Int32.toNatClampNeg (nI head) = head := nI_clamp (by omega)
      have eq : hI h1 (hR h1 p 5) (Int32.toNatClampNeg (nI head)) = nI (q head) := by rw [e5, ch]; exact w1
      have hrow : ∀ b, bt (hJ h1 (g + 3 + 0) (q head)) b = E (q head) b := fun b => by
        have := hg1.2.2.1 0 (by decide) (q head) (by omega) b
        simpa [ad] using this
      refine s_X3_lengthen_61 (x1 := hJ h1 (g + 3 + 0) (q head)) (fun z => absurd z (nI_ge (by omega) (by omega))) (by rw [o1]; exact k0) (by rw [e5]; omega) (by rw [o1, e5]; exact kq.1) (fun _ => by rw [o2, e5, kq.2]; exact vp_in_nI (by omega) (by omega)) (by rw [o3, r0]; omega) (fun _ => by rw [eq, o3, r0]; exact ev_across hg1 (s := 0) (by decide) w3) (by rw [o1, o3, r0]; exact hg.1.1) (fun _ => ev_bc64 _) (fun _ => ?_)
      rw [eq]
      have hF : ∀ b, bt (hJ h1 (g + 3 + 0) (q head) &&& rest) b = true ↔ E (q head) b = true ∧ bt rest b = true := fun b => by rw [bt_and, hrow, Bool.and_eq_true]
      have hR : ∀ b, bt (rest &&& ((hJ h1 (g + 3 + 0) (q head) &&& rest) ^^^ (-1))) b = true ↔ bt rest b = true ∧ E (q head) b = false := fun b => by
        rw [bt_and, bt_not, bt_and, hrow, Bool.and_eq_true]
        constructor
        · rintro ⟨z1, z2⟩
          refine ⟨z1, ?_⟩
          rw [z1] at z2
          cases e : E (q head) b
          · rfl
          · rw [e] at z2; simp at z2
        · rintro ⟨z1, z2⟩
          refine ⟨z1, ?_⟩
          have hb64 : b < 64 := by
            rcases Nat.lt_or_ge b 64 with q | q
            · exact q
            · rw [bt_big q] at z1; cases z1
          rw [z2]; simp [hb64]
      have hRf : ∀ b, bt rest b = false → bt (rest &&& ((hJ h1 (g + 3 + 0) (q head) &&& rest) ^^^ (-1))) b = false := fun b hb => by
        rw [bt_and, hb]; rfl
      have hFf : ∀ b, bt rest b = false → bt (hJ h1 (g + 3 + 0) (q head) &&& rest) b = false := fun b hb => by
        rw [bt_and, hb, Bool.and_false]
      refine in_loop (G := G) hg hl' hp hM hoc (fun tail rest q h1 hB1 => ih (head + 1) tail rest q h1 (by omega) hB1) hz1 _ tail _ _ q h1 rfl ⟨b1, b2, b3, b4, fun b y1 y2 y3 => ?_, fun i hi => ?_, fun i hi b y1 y2 => ?_, fun b y1 => b8 b ((hR b).mp y1).1, fun b y1 => ?_, by omega⟩ hht (fun b y1 y2 => ?_)
      · -- visited before
        have hrb : bt rest b = false := by
          cases er : bt rest b with
          | false => rfl
          | true =>
            cases eE : E (q head) b with
            | true => rw [(hF b).mpr ⟨eE, er⟩] at y3; cases y3
            | false => rw [(hR b).mpr ⟨er, eE⟩] at y2; cases y2
        exact b5 b y1 hrb (bt_zero b)
      · rcases b6 i hi with x | ⟨b, x1, x2, x3, x4⟩
        · exact Or.inl x
        · exact Or.inr ⟨b, x1, x2, hRf b x3, hFf b x3⟩
      · obtain ⟨x1, x2⟩ := b7 i hi b y1 y2
        exact ⟨hRf b x1, hFf b x1⟩
      · obtain ⟨x1, x2⟩ := (hF b).mp y1
        refine ⟨b8 b x2, ?_, x1⟩
        cases er : bt (rest &&& ((hJ h1 (g + 3 + 0) (q head) &&& rest) ^^^ (-1))) b with
        | false => rfl
        | true => have := ((hR b).mp er).2; rw [x1] at this; cases this
      · cases er : bt (rest &&& ((hJ h1 (g + 3 + 0) (q head) &&& rest) ^^^ (-1))) b with
        | false => rfl
        | true => have := ((hR b).mp er).2; rw [y1] at this; cases this
    · have eh : head = tail := by omega
      have hC : Cert E mt op := by
        refine ⟨fun l => ∃ i, i < tail ∧ q i = l, fun l y1 y2 => b4 l y1 y2, fun l b y1 y2 y3 => ?_, fun l y1 => ?_⟩
        · obtain ⟨i, x1, x2⟩ := y1
          subst x2
          obtain ⟨z1, z2⟩ := b7 i (by omega) b y2 y3
          obtain ⟨j, i2, w1, w2, w3, w4, w5⟩ := b5 b y3 z1 z2
          exact ⟨q i2, w5, i2, w1, rfl⟩
        · obtain ⟨i, x1, x2⟩ := y1
          subst x2
          exact (b2 i x1).2.1
      have no : ¬ nI tail ≤ nI head → False := fun z => z (nI_le (by omega) (by omega))
      exact s_X3_lengthen_61 (x1 := 0) (x2 := 0) (fun _ => hz0 h1 b1 hC) (by rw [o1]; exact k0) (by rw [o3, r5]; omega) (by rw [o1, o3, r5]; exact kq.1) (fun z => (no z).elim) (by rw [o3, r0]; omega) (fun z => (no z).elim) (by rw [o1, o3, r0]; exact hg.1.1) (fun z => (no z).elim) (fun z => (no z).elim)
/-- lengthen: one pair more among the open nodes, or a reason why there is none -/
theorem ev_lengthen (hg : GS h g m sz E) (hl : PL h p g m) (hp : PS h p m mt op) (hM : IsM E (mt 0) (mt 1)) (hoc : ∀ l b, mt 0 l = some b → op 0 l = op 1 b) (hop : ∀ l, op 0 l = true → l < sz 0) :
    Ev G m_X3_lengthen [.ref p] h 0 0 (RI (fun x h' => (x = 1 ∧ SO (p + 2) (p + 11) h h' ∧ Longer h p m (sz 0) E mt op h') ∨ (x = 0 ∧ SO (p + 9) (p + 11) h h' ∧ Cert E mt op))) := by
  have hl' := hl
  obtain ⟨k0, r0, r1, r2, r3, r4, r5, r6, k1, n1, ks, kp, ko, kt, kts, kq, kc, hm, g0, gp⟩ := hl
  refine Ev.of pn_X3_lengthen (Nat.le_of_ble_eq_true rfl) ?_
  refine s_X3_lengthen_0 (ev_bare hl' (s := 0) (by decide)) k0 ?_
  refine l1_loop (G := G) (mt := mt) (op := op) hg hl' (fun i hi => bt_bare hp (by decide) i hi) (fun tail q h1 hq => ?_) (sz 0) 0 0 (fun _ => 0) h (by omega) ⟨SO.rf, by omega, fun i hi => by omega, fun i j hi => by omega, fun l hl1 => by omega⟩
  obtain ⟨q1, q2, q3, q4, q5⟩ := hq
  have hopen : ∀ b, bt (hJ h1 (p + 5) 1) b = op 1 b := fun b => by
    rw [(q1.2.2.2.2.2 (p + 5) (by omega)).2 1]
    exact hp.2.2.2 1 (by decide) b
  refine out_loop (G := G) hg hl' hp hM hoc (fun h2 so hC => ⟨⟨0, rfl, Or.inr ⟨rfl, so, hC⟩⟩, so.2.2.2.1, so.2.2.2.2.1⟩) (fun h2 so hL => ⟨⟨1, rfl, Or.inl ⟨rfl, so, hL⟩⟩, so.2.2.2.1, so.2.2.2.2.1⟩) (m + 1) 0 tail _ q h1 (by omega) ⟨q1, fun i hi => ?_, q4, fun l y1 y2 => q5 l (hop l y1) y1 y2, fun b y1 y2 => ?_, fun i hi => Or.inl (q3 i hi).2.2.2, fun i hi => by omega, fun b y1 => by rw [hopen b] at y1; exact y1, fun b y1 => (by rw [bt_zero] at y1; cases y1), by omega⟩
  · obtain ⟨z1, z2, z3, z4⟩ := q3 i hi
    exact ⟨z1, z3, z2⟩
  · rw [hopen b, y1] at y2; cases y2
end LEN2
