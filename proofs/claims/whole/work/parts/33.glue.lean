section GLUE
theorem cnt_add4 {n : Nat} {a b c d : Nat → Bool} (h : ∀ i, i < n → (if a i then 1 else 0) + (if b i then 1 else 0) = (if c i then 1 else 0) + (if d i then (1 : Nat) else 0)) : cnt n a + cnt n b = cnt n c + cnt n d := by
  induction n with
  | zero => rfl
  | succ n ih =>
    have h1 := ih (fun i hi => h i (by omega))
    have h2 := h n (by omega)
    rw [cnt, cnt, cnt, cnt]
    omega
/-- the graph of the open nodes -/
def opA (E : Nat → Nat → Bool) (op : Nat → Nat → Bool) : Nat → Nat → Bool := fun i j => E i j && (op 0 i && op 1 j)
def opF (mt : Nat → Nat → Option Nat) (op : Nat → Nat → Bool) (s : Nat) : Nat → Option Nat := fun i => if op s i then mt s i else none
theorem opA_iff {E op : Nat → Nat → Bool} {i j : Nat} : opA E op i j = true ↔ E i j = true ∧ op 0 i = true ∧ op 1 j = true := by
  unfold opA; simp
variable {n k : Nat} {E : Nat → Nat → Bool} {mt : Nat → Nat → Option Nat} {op : Nat → Nat → Bool} {g g' : Nat → Option Nat}
theorem opF_open {s i : Nat} (h : op s i = true) : opF mt op s i = mt s i := if_pos h
theorem opF_shut {s i : Nat} (h : op s i = false) : opF mt op s i = none := if_neg (by rw [h]; decide)
theorem opA_rg (hE : Rg n k E) : Rg n k (opA E op) := fun i j h => hE i j (opA_iff.mp h).1
theorem op_isM (hM : IsM E (mt 0) (mt 1)) (hoc : ∀ l b, mt 0 l = some b → op 0 l = op 1 b) : IsM (opA E op) (opF mt op 0) (opF mt op 1) := by
  refine ⟨fun i j => ?_, fun i j h => ?_⟩
  · constructor
    · intro h
      cases ho : op 0 i with
      | false => rw [opF_shut ho] at h; cases h
      | true =>
        rw [opF_open ho] at h
        rw [opF_open (by rw [← hoc i j h]; exact ho)]
        exact (hM.1 i j).mp h
    · intro h
      cases ho : op 1 j with
      | false => rw [opF_shut ho] at h; cases h
      | true =>
        rw [opF_open ho] at h
        have h2 := (hM.1 i j).mpr h
        rw [opF_open (by rw [hoc i j h2]; exact ho)]
        exact h2
  · cases ho : op 0 i with
    | false => rw [opF_shut ho] at h; cases h
    | true =>
      rw [opF_open ho] at h
      exact opA_iff.mpr ⟨hM.2 i j h, ho, by rw [← hoc i j h]; exact ho⟩
def glu (mt : Nat → Nat → Option Nat) (op : Nat → Nat → Bool) (s : Nat) (g : Nat → Option Nat) : Nat → Option Nat := fun i => if op s i then g i else mt s i
theorem glu_open {s i : Nat} (h : op s i = true) : glu mt op s g i = g i := if_pos h
theorem glu_shut {s i : Nat} (h : op s i = false) : glu mt op s g i = mt s i := if_neg (by rw [h]; decide)
theorem glue_isM (hM : IsM E (mt 0) (mt 1)) (hoc : ∀ l b, mt 0 l = some b → op 0 l = op 1 b) (hg : IsM (opA E op) g g') : IsM E (glu mt op 0 g) (glu mt op 1 g') := by
  refine ⟨fun i j => ?_, fun i j h => ?_⟩
  · constructor
    · intro h
      cases ho : op 0 i with
      | false =>
        rw [glu_shut ho] at h
        rw [glu_shut (by rw [← hoc i j h]; exact ho)]
        exact (hM.1 i j).mp h
      | true =>
        rw [glu_open ho] at h
        rw [glu_open (opA_iff.mp (hg.2 i j h)).2.2]
        exact (hg.1 i j).mp h
    · intro h
      cases ho : op 1 j with
      | false =>
        rw [glu_shut ho] at h
        have h2 := (hM.1 i j).mpr h
        rw [glu_shut (by rw [hoc i j h2]; exact ho)]
        exact h2
      | true =>
        rw [glu_open ho] at h
        have h2 := (hg.1 i j).mpr h
        rw [glu_open (opA_iff.mp (hg.2 i j h2)).2.1]
        exact h2
  · cases ho : op 0 i with
    | false => rw [glu_shut ho] at h; exact hM.2 i j h
    | true => rw [glu_open ho] at h; exact (opA_iff.mp (hg.2 i j h)).1
theorem glue_siz (hg : IsM (opA E op) g g') : siz n (glu mt op 0 g) + siz n (opF mt op 0) = siz n g + siz n (mt 0) := by
  apply cnt_add4
  intro i _
  cases ho : op 0 i with
  | true => rw [glu_open ho, opF_open ho]
  | false =>
    have : g i = none := by
      cases e : g i with
      | none => rfl
      | some j => have := (opA_iff.mp (hg.2 i j e)).2.1; rw [ho] at this; cases this
    rw [glu_shut ho, opF_shut ho, this]
    simp
/-- a pairing that agrees with mt on the shut nodes: its open part -/
theorem unglue (hE : Rg n k E) (hM : IsM E (mt 0) (mt 1)) (hoc : ∀ l b, mt 0 l = some b → op 0 l = op 1 b) (h3 : ∀ b, b < k → op 1 b = false → ∃ l, mt 1 b = some l) (hg : IsM E g g') (hag : ∀ i, op 0 i = false → g i = mt 0 i) :
    ∃ q q', IsM (opA E op) q q' ∧ siz n q + siz n (mt 0) = siz n g + siz n (opF mt op 0) ∧ ∀ i, op 0 i = true → q i = g i := by
  have key : ∀ i j, op 0 i = true → g i = some j → op 1 j = true := fun i j ho h => by
    cases e : op 1 j with
    | true => rfl
    | false =>
      obtain ⟨l, hl⟩ := h3 j (hE i j (hg.2 i j h)).2 e
      have h4 := (hM.1 l j).mpr hl
      have h5 : op 0 l = false := by rw [hoc l j h4]; exact e
      have h6 := hag l h5
      rw [h4] at h6
      have h7 := (hg.1 l j).mp h6
      rw [(hg.1 i j).mp h] at h7
      cases h7
      rw [ho] at h5; cases h5
  refine ⟨fun i => if op 0 i then g i else none, fun b => if op 1 b then g' b else none, ⟨fun i j => ?_, fun i j h => ?_⟩, ?_, fun i ho => if_pos ho⟩
  · constructor
    · intro h
      cases ho : op 0 i with
      | false => simp [ho] at h
      | true =>
        simp only [ho, if_true] at h
        simp only [key i j ho h, if_true]
        exact (hg.1 i j).mp h
    · intro h
      cases ho : op 1 j with
      | false => simp [ho] at h
      | true =>
        simp only [ho, if_true] at h
        have h2 := (hg.1 i j).mpr h
        have : op 0 i = true := by
          cases e : op 0 i with
          | true => rfl
          | false =>
            have h4 := hag i e
            rw [h2] at h4
            have := hoc i j h4.symm
            rw [e, ho] at this; cases this
        simp only [this, if_true]
        exact h2
  · cases ho : op 0 i with
    | false => simp [ho] at h
    | true =>
      simp only [ho, if_true] at h
      exact opA_iff.mpr ⟨hg.2 i j h, ho, key i j ho h⟩
  · apply cnt_add4
    intro i _
    cases ho : op 0 i with
    | true => rw [opF_open ho]; simp [ho]
    | false => rw [opF_shut ho, hag i ho]; simp [ho]
theorem op_great (hE : Rg n k E) (hG : Great n E (mt 0) (mt 1)) (hoc : ∀ l b, mt 0 l = some b → op 0 l = op 1 b) : Great n (opA E op) (opF mt op 0) (opF mt op 1) := by
  refine ⟨op_isM hG.1 hoc, fun g g' hg => ?_⟩
  have h1 := hG.2 _ _ (glue_isM hG.1 hoc hg)
  have h2 := glue_siz (n := n) (mt := mt) hg
  omega
theorem glue_great (hE : Rg n k E) (hG : Great n E (mt 0) (mt 1)) (hoc : ∀ l b, mt 0 l = some b → op 0 l = op 1 b) (hg : Great n (opA E op) g g') : Great n E (glu mt op 0 g) (glu mt op 1 g') := by
  refine great_same hG (glue_isM hG.1 hoc hg.1) ?_
  have h1 := hg.2 _ _ (op_isM hG.1 hoc)
  have h2 := glue_siz (n := n) (mt := mt) hg.1
  omega
theorem unglue_great (hE : Rg n k E) (hG : Great n E (mt 0) (mt 1)) (hoc : ∀ l b, mt 0 l = some b → op 0 l = op 1 b) (h3 : ∀ b, b < k → op 1 b = false → ∃ l, mt 1 b = some l) (hg : Great n E g g') (hag : ∀ i, op 0 i = false → g i = mt 0 i) :
    ∃ q q', Great n (opA E op) q q' ∧ ∀ i, op 0 i = true → q i = g i := by
  obtain ⟨q, q', h1, h2, h4⟩ := unglue hE hG.1 hoc h3 hg.1 hag
  refine ⟨q, q', great_same (op_great hE hG hoc) h1 ?_, h4⟩
  have := great_siz hG hg
  omega
theorem cert_great (hE : Rg n k E) (hM : IsM E (mt 0) (mt 1)) (hoc : ∀ l b, mt 0 l = some b → op 0 l = op 1 b) (hC : Cert E mt op) : Great n (opA E op) (opF mt op 0) (opF mt op 1) := by
  obtain ⟨X, x1, x2, x3⟩ := hC
  refine konig (opA_rg hE) (op_isM hM hoc) (fun i => X i ∨ op 0 i = false) (fun i _ hi => ?_) (fun i j hx hij => ?_)
  · cases ho : op 0 i with
    | false => exact Or.inr rfl
    | true => rw [opF_open ho] at hi; exact Or.inl (x1 i ho hi)
  · obtain ⟨y1, y2, y3⟩ := opA_iff.mp hij
    rcases hx with hx | hx
    · obtain ⟨l', z1, z2⟩ := x2 i j hx y1 y3
      exact ⟨l', by rw [opF_open y3]; exact z1, Or.inl z2⟩
    · rw [y2] at hx; cases hx
/-- settled up to c: the nodes before c and their partners are shut, all others open -/
def Settled (n k : Nat) (mt : Nat → Nat → Option Nat) (op : Nat → Nat → Bool) (c : Nat) : Prop := (∀ i, op 0 i = true ↔ c ≤ i ∧ i < n) ∧ ∀ b, op 1 b = true ↔ b < k ∧ ∀ i, i < c → mt 0 i ≠ some b
theorem settled_oc {c : Nat} (hE : Rg n k E) (hM : IsM E (mt 0) (mt 1)) (hS : Settled n k mt op c) : (∀ l b, mt 0 l = some b → op 0 l = op 1 b) ∧ ∀ b, b < k → op 1 b = false → ∃ l, mt 1 b = some l := by
  refine ⟨fun l b h => ?_, fun b hb ho => ?_⟩
  · obtain ⟨h1, h2⟩ := hE l b (hM.2 l b h)
    rw [Bool.eq_iff_iff, hS.1, hS.2]
    constructor
    · rintro ⟨z1, z2⟩
      refine ⟨h2, fun i hi e => ?_⟩
      have := (hM.1 i b).mp e
      rw [(hM.1 l b).mp h] at this
      cases this; omega
    · rintro ⟨z1, z2⟩
      refine ⟨?_, h1⟩
      rcases Nat.lt_or_ge l c with q | q
      · exact absurd h (z2 l q)
      · exact q
  · apply Classical.byContradiction
    intro hn
    have : op 1 b = true := (hS.2 b).mpr ⟨hb, fun i _ e => hn ⟨i, (hM.1 i b).mp e⟩⟩
    rw [ho] at this; cases this
/-- what node c may be paired with -/
def Ch (n : Nat) (E : Nat → Nat → Bool) (op : Nat → Nat → Bool) (c r : Nat) : Prop := ∃ g g', Great n (opA E op) g g' ∧ g c = some r
theorem ch_of {c r : Nat} (hE : Rg n k E) (hG : Great n E (mt 0) (mt 1)) (hS : Settled n k mt op c) (hg : Great n E g g') (hpre : ∀ i, i < c → g i = mt 0 i) (hcr : g c = some r) : Ch n E op c r := by
  obtain ⟨hoc, h3⟩ := settled_oc hE hG.1 hS
  have hcn := (hE c r (hg.1.2 c r hcr)).1
  obtain ⟨q, q', z1, z2⟩ := unglue_great hE hG hoc h3 hg (fun i hi => by
    rcases Nat.lt_or_ge i c with y | y
    · exact hpre i y
    · rcases Nat.lt_or_ge i n with y2 | y2
      · rw [(hS.1 i).mpr ⟨y, y2⟩] at hi; cases hi
      · have e1 : g i = none := by
          cases e : g i with
          | none => rfl
          | some j => have := (hE i j (hg.1.2 i j e)).1; omega
        have e2 : mt 0 i = none := by
          cases e : mt 0 i with
          | none => rfl
          | some j => have := (hE i j (hG.1.2 i j e)).1; omega
        rw [e1, e2])
  exact ⟨q, q', z1, by rw [z2 c ((hS.1 c).mpr ⟨Nat.le_refl _, hcn⟩)]; exact hcr⟩
theorem ch_glue {c r : Nat} (hE : Rg n k E) (hG : Great n E (mt 0) (mt 1)) (hS : Settled n k mt op c) (h : Ch n E op c r) : ∃ g g', Great n E g g' ∧ (∀ i, i < c → g i = mt 0 i) ∧ g c = some r := by
  obtain ⟨hoc, h3⟩ := settled_oc hE hG.1 hS
  obtain ⟨q, q', z1, z2⟩ := h
  refine ⟨_, _, glue_great hE hG hoc z1, fun i hi => glu_shut ?_, ?_⟩
  · cases e : op 0 i with
    | false => rfl
    | true => have := ((hS.1 i).mp e).1; omega
  · rw [glu_open (opA_iff.mp (z1.1.2 c r z2)).2.1]; exact z2
/-- nothing to choose: the node stays without a partner -/
theorem best_none {c : Nat} (hE : Rg n k E) (hB : Best n E (mt 0) (mt 1) c) (hS : Settled n k mt op c) (hno : ∀ r, ¬ Ch n E op c r) : Best n E (mt 0) (mt 1) (c + 1) := by
  refine ⟨hB.1, fun l hl g g' r hg hpre hlr => ?_⟩
  by_cases e : l = c
  · subst e
    exact absurd (ch_of hE hB.1 hS hg hpre hlr) (hno r)
  · exact hB.2 l (by omega) g g' r hg hpre hlr
/-- the least choice is taken -/
theorem best_some {c r : Nat} {mt' : Nat → Nat → Option Nat} (hE : Rg n k E) (hB : Best n E (mt 0) (mt 1) c) (hS : Settled n k mt op c) (hle : ∀ r', Ch n E op c r' → r ≤ r') (hG' : Great n E (mt' 0) (mt' 1)) (hpre' : ∀ i, i < c → mt' 0 i = mt 0 i) (hcr : mt' 0 c = some r) : Best n E (mt' 0) (mt' 1) (c + 1) := by
  refine ⟨hG', fun l hl g g' r' hg hpre hlr => ?_⟩
  by_cases e : l = c
  · subst e
    exact ⟨r, hcr, hle r' (ch_of hE hB.1 hS hg (fun i hi => by rw [hpre i hi, hpre' i hi]) hlr)⟩
  · rw [hpre' l (by omega)]
    exact hB.2 l (by omega) g g' r' hg (fun i hi => by rw [hpre i hi, hpre' i (by omega)]) hlr
end GLUE
