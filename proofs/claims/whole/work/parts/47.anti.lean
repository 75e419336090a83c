def ANT (U : Nat → Nat → Bool) (A : Nat → Bool) : Prop := ∀ a b, A a = true → A b = true → U a b = false
variable {n : Nat} {U : Nat → Nat → Bool} {sz : Nat → Nat} {f f' g g' : Nat → Option Nat}
theorem cl_linear {a b r : Nat} (ha : Cl (nxt f) r a) (hb : Cl (nxt f) r b) : Cl (nxt f) a b ∨ Cl (nxt f) b a := by
  refine hb (fun x => Cl (nxt f) a x ∨ Cl (nxt f) x a) (Or.inr ha) ?_
  intro x y hx hxy
  rcases hx with hx | hx
  · exact Or.inl (hx.step hxy)
  · rcases cl_head.1 hx with e | ⟨c, hc, hca⟩
    · subst e; exact Or.inl (Cl.one hxy)
    · have : c = y := Option.some.inj (hc.symm.trans hxy)
      subst this; exact Or.inr hca
def rsU (U : Nat → Nat → Bool) (S : Nat → Bool) : Nat → Nat → Bool := opA U (fun _ => S)
theorem rsU_iff {S : Nat → Bool} {a b : Nat} : rsU U S a b = true ↔ U a b = true ∧ S a = true ∧ S b = true := opA_iff
theorem rsU_spo {S : Nat → Bool} (hU : SPO U) : SPO (rsU U S) := by
  refine ⟨fun a => ?_, fun a b c h1 h2 => ?_⟩
  · cases e : rsU U S a a
    · rfl
    · rw [rsU_iff, hU.1 a] at e; cases e.1
  · rw [rsU_iff] at *
    exact ⟨hU.2 a b c h1.1 h2.1, h1.2.1, h2.2.2⟩
theorem cnt_s (n : Nat) (p : Nat → Bool) : cnt (n + 1) p = cnt n p + (p n).toNat := by
  have h : cnt (n + 1) p = cnt n p + if p n = true then 1 else 0 := rfl
  rw [h]; congr 1
  by_cases e : p n = true
  · rw [if_pos e, e]; rfl
  · rw [if_neg e, Bool.eq_false_iff.2 e]; rfl
theorem cnt_not {n : Nat} (p : Nat → Bool) : cnt n p + cnt n (fun i => !p i) = n := by
  induction n with
  | zero => rfl
  | succ n ih => simp only [cnt_s]; cases hp : p n <;> simp [hp] <;> omega
theorem cnt_split {n : Nat} (p q : Nat → Bool) : cnt n p = cnt n (fun i => p i && q i) + cnt n (fun i => p i && !q i) := by
  induction n with
  | zero => rfl
  | succ n ih => simp only [cnt_s]; cases hp : p n <;> cases hq : q n <;> simp [hp, hq] <;> omega
theorem anti_le {S A : Nat → Bool} (hU : SPO U) (hRg : Rg n n U) (hS : ∀ i, A i = true → S i = true) (hn : ∀ i, S i = true → i < n) (hA : ANT U A) (hM : IsM (rsU U S) g g') : cnt n A + siz n g ≤ cnt n S := by
  have hRs : Rg n n (rsU U S) := fun i j h => hRg i j (rsU_iff.1 h).1
  have hsp := rsU_spo (S := S) hU
  have key : cnt n A ≤ cnt n (fun i => S i && !(g' i).isSome) := by
    have ex : ∀ x, ∃ r, A x = true → r < n ∧ g' r = none ∧ Cl (nxt g) r x := by
      intro x
      cases e : A x
      · exact ⟨0, fun z => (by cases z)⟩
      · obtain ⟨r, h⟩ := root_ex hsp hRs hM _ x (hn x (hS x e)) (Nat.le_refl _)
        exact ⟨r, fun _ => h⟩
    let φ : Nat → Nat := fun x => Classical.choose (ex x)
    have hφ : ∀ x, A x = true → φ x < n ∧ g' (φ x) = none ∧ Cl (nxt g) (φ x) x := fun x => Classical.choose_spec (ex x)
    refine cnt_inj φ n A _ ?_ ?_
    · intro i _ hi
      obtain ⟨h1, h2, h3⟩ := hφ i hi
      refine ⟨h1, ?_⟩
      have : S (φ i) = true := by
        rcases cl_head.1 h3 with e | ⟨b, hb, _⟩
        · rw [← e]; exact hS i hi
        · exact (rsU_iff.1 (hM.2 _ _ hb)).2.1
      rw [this, h2]; rfl
    · intro i j _ _ hi hj hij
      obtain ⟨_, _, h3⟩ := hφ i hi
      obtain ⟨_, _, h4⟩ := hφ j hj
      rw [hij] at h3
      have no : ∀ a b, A a = true → A b = true → Cl (nxt g) a b → b = a := by
        intro a b ha hb hc
        rcases nxt_U hsp hM hc with e | e
        · exact e
        · have := (rsU_iff.1 e).1
          rw [hA a b ha hb] at this; cases this
      rcases cl_linear h3 h4 with q | q
      · exact (no i j hi hj q).symm
      · exact no j i hj hi q
  have e1 : siz n g = cnt n (fun i => S i && (g' i).isSome) := by
    rw [siz_eq hRs hM]
    refine cnt_congr (fun i _ => ?_)
    cases e : g' i with
    | none => simp
    | some j => rw [(rsU_iff.1 (hM.2 _ _ ((hM.1 j i).2 e))).2.2]; rfl
  rw [e1, cnt_split S (fun i => (g' i).isSome)]
  omega
def An (sz : Nat → Nat) (U : Nat → Nat → Bool) (t : Nat) : Prop := mis sz U 1 t ∧ ¬ ptA sz U 0 t
theorem An_ant : ANT U (fun t => dc (An sz U t)) := by
  intro a b ha hb
  rw [dc_iff] at ha hb
  cases e : U a b
  · rfl
  · exact absurd ⟨b, hb.1, e⟩ ha.2
theorem An_siz (h01 : sz 1 = sz 0) (hRg : Rg (sz 0) (sz 1) U) (hG : Great (sz 0) U f f') (S : Nat → Bool) (hS : ∀ i, S i = true → i < sz 0) : cnt (sz 0) S ≤ cnt (sz 0) (fun t => S t && dc (An sz U t)) + siz (sz 0) f := by
  have h1 : cnt (sz 0) (fun t => dc (ptA sz U 0 t)) ≤ cnt (sz 1) (fun r => (f' r).isSome && dc (mis sz U 1 r)) := by
    have ex : ∀ l, ∃ r, ptA sz U 0 l → f l = some r ∧ mis sz U 1 r := by
      intro l
      by_cases q : ptA sz U 0 l
      · obtain ⟨j, hj, hlj⟩ := q
        obtain ⟨r, h⟩ := mis_mate1 hRg hG hj hlj
        exact ⟨r, fun _ => h⟩
      · exact ⟨0, fun z => (q z).elim⟩
    refine cnt_inj (fun l => Classical.choose (ex l)) _ _ _ ?_ ?_
    · intro i _ hi
      have h := Classical.choose_spec (ex i) (dc_iff.1 hi)
      refine ⟨h.2.1, ?_⟩
      rw [(hG.1.1 _ _).1 h.1, dc_iff.2 h.2]; rfl
    · intro i j _ _ hi hj hij
      have h := Classical.choose_spec (ex i) (dc_iff.1 hi)
      have h2 := Classical.choose_spec (ex j) (dc_iff.1 hj)
      rw [← hij] at h2
      exact Option.some.inj (((hG.1.1 _ _).1 h.1).symm.trans ((hG.1.1 _ _).1 h2.1))
  have h2 : cnt (sz 1) (fun r => !dc (mis sz U 1 r)) ≤ cnt (sz 1) (fun r => (f' r).isSome && !dc (mis sz U 1 r)) := by
    refine cnt_inj (fun x => x) _ _ _ (fun i hi h => ⟨hi, ?_⟩) (fun _ _ _ _ _ _ e => e)
    have : (f' i).isSome = true := by
      cases e : f' i with
      | some _ => rfl
      | none =>
        have q : mis sz U 1 i := ⟨hi, f, f', hG, e⟩
        have h : (!dc (mis sz U 1 i)) = true := h
        rw [dc_iff.2 q] at h; cases h
    have h : (!dc (mis sz U 1 i)) = true := h
    show ((f' i).isSome && !dc (mis sz U 1 i)) = true
    rw [this, h]; rfl
  have h3 := cnt_split (n := sz 1) (fun r => (f' r).isSome) (fun r => dc (mis sz U 1 r))
  have h4 : siz (sz 0) f = cnt (sz 1) (fun r => (f' r).isSome) := siz_eq hRg hG.1
  have h5 : cnt (sz 0) (fun t => S t && !dc (An sz U t)) ≤ cnt (sz 0) (fun t => dc (ptA sz U 0 t)) + cnt (sz 1) (fun r => !dc (mis sz U 1 r)) := by
    rw [h01]
    generalize sz 0 = k
    clear h1 h2 h3 h4 hG hS h01 hRg
    induction k with
    | zero => exact Nat.zero_le _
    | succ k ih =>
      simp only [cnt_s]
      have : dc (An sz U k) = (dc (mis sz U 1 k) && !dc (ptA sz U 0 k)) := by
        symm; refine dc_eq ?_
        rw [Bool.and_eq_true, dc_iff, Bool.not_eq_true', dc_no]; rfl
      simp only [this]
      cases h1 : S k <;> cases h2 : dc (mis sz U 1 k) <;> cases h3 : dc (ptA sz U 0 k) <;> simp [h1, h2, h3] <;> omega
  have h6 := cnt_split (n := sz 0) S (fun t => dc (An sz U t))
  omega
def MaxA (n : Nat) (U : Nat → Nat → Bool) (A : Nat → Bool) : Prop := ANT U A ∧ (∀ i, A i = true → i < n) ∧ ∀ B, ANT U B → (∀ i, B i = true → i < n) → cnt n B ≤ cnt n A
def inMax (n : Nat) (U : Nat → Nat → Bool) (t : Nat) : Prop := ∃ A : Nat → Bool, MaxA n U A ∧ A t = true
theorem rsU_all (hRg : Rg n n U) : rsU U (fun i => decide (i < n)) = U := by
  funext a b
  cases e : U a b
  · cases e2 : rsU U (fun i => decide (i < n)) a b
    · rfl
    · rw [rsU_iff, e] at e2; cases e2.1
  · rw [rsU_iff]
    exact ⟨e, decide_eq_true (hRg a b e).1, decide_eq_true (hRg a b e).2⟩
theorem ant_le (hU : SPO U) (hRg : Rg n n U) (hM : IsM U g g') {A : Nat → Bool} (hA : ANT U A) (hn : ∀ i, A i = true → i < n) : cnt n A + siz n g ≤ n := by
  have h := anti_le (n := n) (S := fun i => decide (i < n)) hU hRg (fun i hi => decide_eq_true (hn i hi)) (fun i hi => of_decide_eq_true hi) hA (by rw [rsU_all hRg]; exact hM)
  rw [cnt_lt (Nat.le_refl n)] at h
  exact h
theorem An_lt {t : Nat} (h01 : sz 1 = sz 0) (h : An sz U t) : t < sz 0 := by have := h.1.1; omega
theorem An_cnt (h01 : sz 1 = sz 0) (hU : SPO U) (hRg : Rg (sz 0) (sz 0) U) (hG : Great (sz 0) U f f') : cnt (sz 0) (fun t => dc (An sz U t)) + siz (sz 0) f = sz 0 := by
  have h1 := ant_le hU hRg hG.1 (An_ant (sz := sz)) (fun i hi => An_lt h01 (dc_iff.1 hi))
  have h2 := An_siz h01 (by rw [h01]; exact hRg) hG (fun i => decide (i < sz 0)) (fun i hi => of_decide_eq_true hi)
  rw [cnt_lt (Nat.le_refl _)] at h2
  rw [cnt_congr (q := fun t => dc (An sz U t)) (fun i hi => by rw [decide_eq_true hi]; rfl)] at h2
  omega
theorem maxA_iff (h01 : sz 1 = sz 0) (hU : SPO U) (hRg : Rg (sz 0) (sz 0) U) (hG : Great (sz 0) U f f') {A : Nat → Bool} (hA : ANT U A) (hn : ∀ i, A i = true → i < sz 0) : MaxA (sz 0) U A ↔ cnt (sz 0) A + siz (sz 0) f = sz 0 := by
  have h1 := An_cnt h01 hU hRg hG
  have h2 := ant_le hU hRg hG.1 hA hn
  constructor
  · intro h
    have h3 := h.2.2 _ (An_ant (sz := sz)) (fun i hi => An_lt h01 (dc_iff.1 hi))
    omega
  · intro h
    refine ⟨hA, hn, fun B hB hb => ?_⟩
    have := ant_le hU hRg hG.1 hB hb
    omega
theorem An_max (h01 : sz 1 = sz 0) (hU : SPO U) (hRg : Rg (sz 0) (sz 0) U) (hG : Great (sz 0) U f f') : MaxA (sz 0) U (fun t => dc (An sz U t)) :=
  (maxA_iff h01 hU hRg hG An_ant (fun _ hi => An_lt h01 (dc_iff.1 hi))).2 (An_cnt h01 hU hRg hG)
def bes (n : Nat) (U : Nat → Nat → Bool) (t x : Nat) : Bool := decide (x < n) && !(decide (x = t) || U x t || U t x)
theorem bes_iff {t x : Nat} : bes n U t x = true ↔ x < n ∧ x ≠ t ∧ U x t = false ∧ U t x = false := by
  unfold bes
  rw [Bool.and_eq_true, decide_eq_true_iff, Bool.not_eq_true', Bool.or_eq_false_iff, Bool.or_eq_false_iff, decide_eq_false_iff_not, and_assoc]
def addT (A : Nat → Bool) (t : Nat) : Nat → Bool := fun x => A x || decide (x = t)
theorem cnt_add {A : Nat → Bool} {t : Nat} (ht : t < n) (h : A t = false) : cnt n (addT A t) = cnt n A + 1 := by
  rw [cnt_off (k := t) ht (by unfold addT; rw [decide_eq_true rfl, Bool.or_true])]
  rw [cnt_congr (q := A)]
  intro i _
  unfold addT
  by_cases e : i = t
  · subst e; rw [h, decide_eq_true rfl]; rfl
  · rw [decide_eq_false e]; simp
theorem ant_add {A : Nat → Bool} {t : Nat} (hU : SPO U) (hA : ANT U A) (h : ∀ x, A x = true → U x t = false ∧ U t x = false) : ANT U (addT A t) := by
  intro a b ha hb
  unfold addT at ha hb
  rw [Bool.or_eq_true, decide_eq_true_iff] at ha hb
  rcases ha with ha | ha <;> rcases hb with hb | hb
  · exact hA a b ha hb
  · rw [hb]; exact (h a ha).1
  · rw [ha]; exact (h b hb).2
  · rw [ha, hb]; exact hU.1 t
theorem bes_max (h01 : sz 1 = sz 0) (hU : SPO U) (hRg : Rg (sz 0) (sz 0) U) (hG : Great (sz 0) U f f') {t : Nat} (ht : t < sz 0) (hg : Great (sz 0) (rsU U (bes (sz 0) U t)) g g') :
    cnt (sz 0) (bes (sz 0) U t) + siz (sz 0) f + 1 = sz 0 + siz (sz 0) g ↔ inMax (sz 0) U t := by
  have hRs : Rg (sz 0) (sz 1) (rsU U (bes (sz 0) U t)) := fun i j h => by rw [h01]; exact hRg i j (rsU_iff.1 h).1
  have h2 := An_siz h01 hRs hg (bes (sz 0) U t) (fun i hi => (bes_iff.1 hi).1)
  let B : Nat → Bool := fun x => bes (sz 0) U t x && dc (An sz (rsU U (bes (sz 0) U t)) x)
  have hB : ∀ x, B x = true → bes (sz 0) U t x = true ∧ An sz (rsU U (bes (sz 0) U t)) x := fun x h => by
    have h : (bes (sz 0) U t x && dc (An sz (rsU U (bes (sz 0) U t)) x)) = true := h
    rw [Bool.and_eq_true, dc_iff] at h; exact h
  have hBA : ANT U B := by
    intro a b ha hb
    cases e : U a b
    · rfl
    · have h := An_ant (sz := sz) (U := rsU U (bes (sz 0) U t)) a b (dc_iff.2 (hB a ha).2) (dc_iff.2 (hB b hb).2)
      rw [rsU_iff.2 ⟨e, (hB a ha).1, (hB b hb).1⟩] at h; cases h
  have hC : ANT U (addT B t) := ant_add hU hBA (fun x hx => (bes_iff.1 (hB x hx).1).2.2)
  have hBt : B t = false := by
    cases e : B t
    · rfl
    · exact absurd rfl (bes_iff.1 (hB t e).1).2.1
  have hCn : ∀ i, addT B t i = true → i < sz 0 := by
    intro i hi
    unfold addT at hi
    rw [Bool.or_eq_true, decide_eq_true_iff] at hi
    rcases hi with hi | hi
    · exact (bes_iff.1 (hB i hi).1).1
    · rw [hi]; exact ht
  have hcB : cnt (sz 0) (addT B t) = cnt (sz 0) B + 1 := cnt_add ht hBt
  have h2 : cnt (sz 0) (bes (sz 0) U t) ≤ cnt (sz 0) B + siz (sz 0) g := h2
  have h3 := ant_le hU hRg hG.1 hC hCn
  constructor
  · intro h
    refine ⟨addT B t, (maxA_iff h01 hU hRg hG hC hCn).2 ?_, ?_⟩
    · omega
    · unfold addT; rw [decide_eq_true rfl, Bool.or_true]
  · rintro ⟨A, hA, hAt⟩
    have h4 := (maxA_iff h01 hU hRg hG hA.1 hA.2.1).1 hA
    have h5 := cnt_off ht hAt
    have h6 := anti_le (n := sz 0) (S := bes (sz 0) U t) (A := fun j => A j && !decide (j = t)) hU hRg (fun i hi => by
      rw [Bool.and_eq_true, Bool.not_eq_true', decide_eq_false_iff_not] at hi
      exact bes_iff.2 ⟨hA.2.1 i hi.1, hi.2, hA.1 i t hi.1 hAt, hA.1 t i hAt hi.1⟩) (fun i hi => (bes_iff.1 hi).1) (fun a b ha hb => by
      rw [Bool.and_eq_true] at ha hb
      exact hA.1 a b ha.1 hb.1) hg.1
    omega
theorem max_noptA (h01 : sz 1 = sz 0) (hU : SPO U) (hRg : Rg (sz 0) (sz 0) U) {A : Nat → Bool} (hA : MaxA (sz 0) U A) {x : Nat} (hx : A x = true) : ¬ ptA sz U 0 x := by
  rintro ⟨r, ⟨hr, g, g', hg, hgr⟩, hxr⟩
  have hgr : g' r = none := hgr
  have hxr : U x r = true := hxr
  have h4 := (maxA_iff h01 hU hRg hg hA.1 hA.2.1).1 hA
  let B : Nat → Bool := fun y => dc (∃ a, A a = true ∧ U y a = true)
  have hAB : ∀ i, A i = true → B i = false := by
    intro i hi
    refine dc_no.2 ?_
    rintro ⟨a, ha, h⟩
    rw [hA.1 i a hi ha] at h; cases h
  let P : Nat → Bool := fun y => !A y && !B y
  have hr0 : r < sz 0 := (hRg _ _ hxr).2
  have up : ∀ y z, B y = false → U y z = true → P z = true := by
    intro y z hy hyz
    have hy := dc_no.1 hy
    show (!A z && !B z) = true
    rw [Bool.and_eq_true, Bool.not_eq_true', Bool.not_eq_true']
    refine ⟨?_, dc_no.2 ?_⟩
    · cases e : A z
      · rfl
      · exact (hy ⟨z, e, hyz⟩).elim
    · rintro ⟨a, ha, h⟩
      exact hy ⟨a, ha, hU.2 _ _ _ hyz h⟩
  have hPr : P r = true := up x r (hAB x hx) hxr
  have h5 := cnt_off hr0 hPr
  have h6 : sz 0 = cnt (sz 0) A + cnt (sz 0) B + cnt (sz 0) P := by
    have key : ∀ k, cnt k A + cnt k B + cnt k P = k := by
      intro k
      induction k with
      | zero => rfl
      | succ k ih =>
        simp only [cnt_s]
        have hk := hAB k
        have hP : P k = (!A k && !B k) := rfl
        simp only [hP]
        cases h1 : A k
        · cases h2 : B k <;> simp [h1, h2] <;> omega
        · have h2 := hk h1
          simp [h1, h2]; omega
    exact (key _).symm
  have h7 : siz (sz 0) g ≤ cnt (sz 0) B + cnt (sz 0) (fun j => P j && !decide (j = r)) := by
    unfold siz
    rw [cnt_split _ B]
    have a1 : cnt (sz 0) (fun i => (g i).isSome && B i) ≤ cnt (sz 0) B := cnt_mono (fun i h => by rw [Bool.and_eq_true] at h; exact h.2)
    have a2 : cnt (sz 0) (fun i => (g i).isSome && !B i) ≤ cnt (sz 0) (fun j => P j && !decide (j = r)) := by
      refine cnt_inj (fun l => (g l).getD 0) _ _ _ ?_ ?_
      · intro i _ hi
        rw [Bool.and_eq_true, Bool.not_eq_true'] at hi
        obtain ⟨j, hj⟩ := isSome_ex hi.1
        have e : (g i).getD 0 = j := by rw [hj]; rfl
        simp only [e]
        have hij := hg.1.2 _ _ hj
        refine ⟨(hRg _ _ hij).2, ?_⟩
        rw [Bool.and_eq_true, Bool.not_eq_true', decide_eq_false_iff_not]
        refine ⟨up i j hi.2 hij, ?_⟩
        intro e
        subst e
        rw [(hg.1.1 _ _).1 hj] at hgr; cases hgr
      · intro i j _ _ hi hj hij
        rw [Bool.and_eq_true] at hi hj
        obtain ⟨a, ha⟩ := isSome_ex hi.1
        obtain ⟨b, hb⟩ := isSome_ex hj.1
        have hij : (g i).getD 0 = (g j).getD 0 := hij
        rw [ha, hb] at hij
        have hij : a = b := hij
        subst hij
        exact Option.some.inj (((hg.1.1 _ _).1 ha).symm.trans ((hg.1.1 _ _).1 hb))
    omega
  omega
theorem low_iff (h01 : sz 1 = sz 0) (hU : SPO U) (hRg : Rg (sz 0) (sz 0) U) (hG : Great (sz 0) U f f') {t : Nat} (ht : t < sz 0) : (inMax (sz 0) U t ∧ ∀ x, x < sz 0 → inMax (sz 0) U x → U x t = false) ↔ mis sz U 1 t ∧ ¬ ptA sz U 0 t := by
  have hm := An_max h01 hU hRg hG
  constructor
  · rintro ⟨⟨A, hA, hAt⟩, h⟩
    have h2 := max_noptA h01 hU hRg hA hAt
    refine ⟨?_, h2⟩
    refine Classical.byContradiction (fun hno => ?_)
    have hnt : dc (An sz U t) = false := dc_no.2 (fun q => hno q.1)
    have hC : ANT U (addT (fun t => dc (An sz U t)) t) := by
      refine ant_add hU An_ant (fun x hx => ?_)
      constructor
      · exact h x (An_lt h01 (dc_iff.1 hx)) ⟨_, hm, hx⟩
      · cases e : U t x
        · rfl
        · exact (h2 ⟨x, (dc_iff.1 hx).1, e⟩).elim
    have h3 := hm.2.2 _ hC (fun i hi => by
      unfold addT at hi
      rw [Bool.or_eq_true, decide_eq_true_iff, dc_iff] at hi
      rcases hi with hi | hi
      · exact An_lt h01 hi
      · rw [hi]; exact ht)
    rw [cnt_add ht hnt] at h3
    omega
  · intro h
    refine ⟨⟨_, hm, dc_iff.2 h⟩, fun x _ hx => ?_⟩
    cases e : U x t
    · rfl
    · obtain ⟨A, hA, hAx⟩ := hx
      exact (max_noptA h01 hU hRg hA hAx ⟨t, h.1, e⟩).elim
def trU (U : Nat → Nat → Bool) : Nat → Nat → Bool := fun a b => U b a
theorem mis_tr (h01 : sz 1 = sz 0) (hRg : Rg (sz 0) (sz 0) U) {s i : Nat} (hs : s < 2) : mis sz (trU U) s i ↔ mis sz U (1 - s) i := by
  have a : ∀ V : Nat → Nat → Bool, Rg (sz 0) (sz 0) V → mis sz V (1 - s) i → mis sz (trU V) s i := by
    intro V hV h
    obtain ⟨h1, g, g', h2, h3⟩ := h
    refine ⟨?_, g', g, Great.swap hV h2, ?_⟩
    · rcases (by omega : s = 0 ∨ s = 1) with e | e <;> subst e <;> simp at h1 ⊢ <;> omega
    · rcases (by omega : s = 0 ∨ s = 1) with e | e <;> subst e <;> simpa using h3
  constructor
  · intro h
    obtain ⟨h1, g, g', h2, h3⟩ := h
    refine ⟨?_, g', g, Great.swap (A := trU U) hRg.swap h2, ?_⟩
    · rcases (by omega : s = 0 ∨ s = 1) with e | e <;> subst e <;> simp at h1 ⊢ <;> omega
    · rcases (by omega : s = 0 ∨ s = 1) with e | e <;> subst e <;> simpa using h3
  · exact a U hRg
theorem spo_tr (hU : SPO U) : SPO (trU U) := ⟨hU.1, fun a b c h1 h2 => hU.2 c b a h2 h1⟩
theorem ant_tr {A : Nat → Bool} : ANT (trU U) A ↔ ANT U A := ⟨fun h a b ha hb => h b a hb ha, fun h a b ha hb => h b a hb ha⟩
theorem inMax_tr {t : Nat} : inMax n (trU U) t ↔ inMax n U t := by
  unfold inMax MaxA
  simp only [ant_tr]
theorem high_iff (h01 : sz 1 = sz 0) (hU : SPO U) (hRg : Rg (sz 0) (sz 0) U) (hG : Great (sz 0) U f f') {t : Nat} (ht : t < sz 0) : (inMax (sz 0) U t ∧ ∀ x, x < sz 0 → inMax (sz 0) U x → U t x = false) ↔ mis sz U 0 t ∧ ¬ ptA sz U 1 t := by
  have h := low_iff h01 (spo_tr hU) hRg.swap (Great.swap hRg hG) (t := t) ht
  simp only [inMax_tr] at h
  have e1 : mis sz (trU U) 1 t ↔ mis sz U 0 t := mis_tr h01 hRg (by omega)
  have e2 : ptA sz (trU U) 0 t ↔ ptA sz U 1 t := by
    unfold ptA
    constructor
    · rintro ⟨j, h1, h2⟩; exact ⟨j, (mis_tr h01 hRg (by omega)).1 h1, h2⟩
    · rintro ⟨j, h1, h2⟩; exact ⟨j, (mis_tr h01 hRg (by omega)).2 h1, h2⟩
  rw [e1, e2] at h
  exact h
