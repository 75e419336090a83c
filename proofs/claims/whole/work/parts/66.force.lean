variable {G : GG} {h h' : PH} {y n m : Nat} {A : Nat → Nat → Bool} {mt : Nat → Nat → Option Nat} {op : Nat → Nat → Bool}
theorem up_up {f : Nat → Option Nat} {i : Nat} {a b : Option Nat} : up (up f i a) i b = up f i b := by
  funext k
  by_cases e : k = i
  · subst e; rw [up_eq, up_eq]
  · rw [up_ne e, up_ne e, up_ne e]
theorem up_comm {f : Nat → Option Nat} {i j : Nat} {a b : Option Nat} (h : i ≠ j) : up (up f i a) j b = up (up f j b) i a := by
  funext k
  by_cases e : k = i
  · subst e; rw [up_ne h, up_eq, up_eq]
  · by_cases e2 : k = j
    · subst e2; rw [up_eq, up_ne e, up_eq]
    · rw [up_ne e2, up_ne e, up_ne e, up_ne e2]
theorem cl_comm {s i t k : Nat} : cl (cl op s i) t k = cl (cl op t k) s i := by
  funext a b
  unfold cl
  rw [Bool.and_assoc, Bool.and_assoc, Bool.and_comm (!(decide (a = s) && decide (b = i)))]
/-- one of the two had a partner -/
theorem fo_1 (hRg : Rg n m A) (hG : Great n A (mt 0) (mt 1)) {l r pl : Nat} (hA : A l r = true) (h1 : mt 0 l = some pl) (h2 : mt 1 r = none) : Great n A (up (mt 0) l (some r)) (up (up (mt 1) pl none) r (some l)) := by
  have hpl : r ≠ pl := fun e => by rw [e, (hG.1.1 _ _).1 h1] at h2; cases h2
  have hM := (hG.1.del h1).add hA up_eq (by rw [up_ne hpl]; exact h2)
  rw [up_up] at hM
  exact great_same hG hM (by rw [siz_up_same (by rw [h1]; rfl)]; exact Nat.le_refl _)
theorem fo_2 (hRg : Rg n m A) (hG : Great n A (mt 0) (mt 1)) {l r pr : Nat} (hA : A l r = true) (h1 : mt 0 l = none) (h2 : mt 1 r = some pr) : Great n A (up (up (mt 0) pr none) l (some r)) (up (mt 1) r (some l)) := by
  have h3 := (hG.1.1 _ _).2 h2
  have hpl : l ≠ pr := fun e => by rw [e, h3] at h1; cases h1
  have hM := (hG.1.del h3).add hA (by rw [up_ne hpl]; exact h1) up_eq
  rw [up_up (f := mt 1)] at hM
  have s1 := siz_up_none (n := n) (f := mt 0) (i := pr) (hRg _ _ (hG.1.2 _ _ h3)).1 (by rw [h3]; rfl)
  have s2 := siz_up_some (n := n) (f := up (mt 0) pr none) (i := l) (j := r) (hRg _ _ hA).1 (by rw [up_ne hpl]; exact h1)
  exact great_same hG hM (by omega)
theorem fo_3 (hRg : Rg n m A) (hG : Great n A (mt 0) (mt 1)) {l r pl pr : Nat} (hA : A l r = true) (h1 : mt 0 l = some pl) (h2 : mt 1 r = some pr) (hne : pl ≠ r) : IsM A (up (up (mt 0) pr none) l (some r)) (up (up (mt 1) pl none) r (some l)) ∧ siz n (up (up (mt 0) pr none) l (some r)) + 1 = siz n (mt 0) ∧ l ≠ pr := by
  have h3 := (hG.1.1 _ _).2 h2
  have hlp : l ≠ pr := fun e => by rw [e, h3] at h1; exact hne (Option.some.inj h1).symm
  have d1 := hG.1.del h1
  have d2 := d1.del (l := pr) (r := r) (by rw [up_ne hlp.symm]; exact h3)
  have hM := d2.add hA (by rw [up_ne hlp]; exact up_eq) up_eq
  rw [up_up (f := up (mt 1) pl none), up_comm hlp, up_up] at hM
  refine ⟨hM, ?_, hlp⟩
  have s1 := siz_up_none (n := n) (f := mt 0) (i := pr) (hRg _ _ (hG.1.2 _ _ h3)).1 (by rw [h3]; rfl)
  rw [siz_up_same (by rw [up_ne hlp, h1]; rfl)]
  omega
theorem fo_oc (hoc : ∀ l b, mt 0 l = some b → op 0 l = op 1 b) (hG : Great n A (mt 0) (mt 1)) {l r pl pr : Nat} (h1 : mt 0 l = some pl) (h2 : mt 1 r = some pr) (hne : pl ≠ r) (a b : Nat) (e : up (up (mt 0) pr none) l (some r) a = some b) : cl (cl op 0 l) 1 r 0 a = cl (cl op 0 l) 1 r 1 b := by
  by_cases ea : a = l
  · subst ea
    rw [up_eq] at e; cases e
    rw [cl_self, cl_ne (fun z => absurd z.1 (by decide)), cl_self]
  · rw [up_ne ea] at e
    have hap : a ≠ pr := fun z => by rw [z, up_eq] at e; cases e
    rw [up_ne hap] at e
    have hbr : b ≠ r := fun z => by
      subst z
      exact hap (Option.some.inj (((hG.1.1 _ _).1 e).symm.trans h2))
    rw [cl_ne (fun z => absurd z.1 (by decide)), cl_ne (fun z => ea z.2), cl_ne (fun z => hbr z.2), cl_ne (fun z => absurd z.1 (by decide))]
    exact hoc a b e
theorem fo_no (hRg : Rg n m A) (hG : Great n A (mt 0) (mt 1)) (hoc : ∀ l b, mt 0 l = some b → op 0 l = op 1 b) {l r pl pr : Nat} (hol : op 0 l = true) (hor : op 1 r = true) (hA : A l r = true) (h1 : mt 0 l = some pl) (h2 : mt 1 r = some pr) (hne : pl ≠ r) (hC : Cert A (two (up (up (mt 0) pr none) l (some r)) (up (up (mt 1) pl none) r (some l))) (cl (cl op 0 l) 1 r)) : ¬ Ch n A op l r := by
  obtain ⟨f1, f2, f3⟩ := fo_3 hRg hG hA h1 h2 hne
  rintro ⟨g, g', hg, e⟩
  have hgr := cert_great (mt := two (up (up (mt 0) pr none) l (some r)) (up (up (mt 1) pl none) r (some l))) (op := cl (cl op 0 l) 1 r) hRg f1 (fun a b z => fo_oc hoc hG h1 h2 hne a b z) hC
  have h3 := (hG.1.1 _ _).2 h2
  have hopr : op 0 pr = true := by rw [hoc pr r h3]; exact hor
  have hs0 := great_siz (op_great hRg hG hoc) hg
  have hgl := (hRg _ _ (opA_iff.1 (hg.1.2 _ _ e)).1).1
  have hgM : IsM (opA A (cl (cl op 0 l) 1 r)) (up g l none) (up g' r none) := by
    refine (hg.1.del e).sub (fun a b z => ?_)
    have hal : a ≠ l := fun w => by rw [w, up_eq] at z; cases z
    rw [up_ne hal] at z
    have hbr : b ≠ r := fun w => by
      subst w
      exact hal (Option.some.inj (((hg.1.1 _ _).1 z).symm.trans ((hg.1.1 _ _).1 e)))
    obtain ⟨z1, z2, z3⟩ := opA_iff.1 (hg.1.2 _ _ z)
    refine opA_iff.2 ⟨z1, ?_, ?_⟩
    · rw [cl_ne (fun w => absurd w.1 (by decide)), cl_ne (fun w => hal w.2)]; exact z2
    · rw [cl_ne (fun w => hbr w.2), cl_ne (fun w => absurd w.1 (by decide))]; exact z3
  have q1 := hgr.2 _ _ hgM
  have q2 := siz_up_none (n := n) (f := g) (i := l) hgl (by rw [e]; rfl)
  have eF : opF (two (up (up (mt 0) pr none) l (some r)) (up (up (mt 1) pl none) r (some l))) (cl (cl op 0 l) 1 r) 0 = up (up (opF mt op 0) l none) pr none := by
    funext a
    show (if cl (cl op 0 l) 1 r 0 a = true then up (up (mt 0) pr none) l (some r) a else none) = _
    by_cases ea : a = l
    · subst ea
      rw [cl_ne (fun w => absurd w.1 (by decide)), cl_self, if_neg (by decide), up_ne f3, up_eq]
    · rw [cl_ne (fun w => absurd w.1 (by decide)), cl_ne (fun w => ea w.2), up_ne ea]
      by_cases ep : a = pr
      · subst ep; rw [up_eq, up_eq]; split <;> rfl
      · rw [up_ne ep, up_ne ep, up_ne ea]; rfl
  have q3 := siz_up_none (n := n) (f := opF mt op 0) (i := l) hgl (by rw [opF_open hol, h1]; rfl)
  have q4 := siz_up_none (n := n) (f := up (opF mt op 0) l none) (i := pr) (hRg _ _ (hG.1.2 _ _ h3)).1 (by rw [up_ne f3.symm, opF_open hopr, h3]; rfl)
  rw [eF] at q1
  omega
def FOK (h : PH) (y n m : Nat) (A : Nat → Nat → Bool) (mt : Nat → Nat → Option Nat) (op : Nat → Nat → Bool) (l r : Nat) (x : Int32) (h' : PH) : Prop :=
  EO y [19, 20, 21, 22, 23, 24, 25, 26] [38] h h' ∧ ((x = 1 ∧ ∃ mt', EG h' y n m A mt' op ∧ Great n A (mt' 0) (mt' 1) ∧ (∀ l b, mt' 0 l = some b → op 0 l = op 1 b) ∧ mt' 0 l = some r ∧ ∀ s i, s < 2 → op s i = false → mt' s i = mt s i) ∨ (x = 0 ∧ EG h' y n m A mt op ∧ ¬ Ch n A op l r))
theorem m_force {l r : Nat} (hg : EG h y n m A mt op) (hG : Great n A (mt 0) (mt 1)) (hoc : ∀ l b, mt 0 l = some b → op 0 l = op 1 b) (hol : op 0 l = true) (hor : op 1 r = true) (hA : A l r = true) : Ev G m_X6_force [.ref y, .int (nI l), .int (nI r)] h 0 0 (RI (FOK h y n m A mt op l r)) := by
  obtain ⟨hm, hN', he, hq, hp⟩ := id hg
  obtain ⟨r30, k30, l30⟩ := hm.r 30 19 4 50 (by decide)
  obtain ⟨r31, k31, l31⟩ := hm.r 31 20 4 50 (by decide)
  obtain ⟨r32, k32, l32⟩ := hm.r 32 21 2 50 (by decide)
  obtain ⟨r33, k33, l33⟩ := hm.r 33 22 2 50 (by decide)
  have y0 := hm.2.1
  obtain ⟨n1, n2, n3, n4⟩ := id hN'
  have hRg := he.2
  obtain ⟨hl, hr⟩ := hRg _ _ hA
  have hon : (∀ i, op 0 i = true → i < n) ∧ ∀ i, op 1 i = true → i < m := hq.2
  have cL : Int32.toNatClampNeg (nI l) = l := nI_clamp (by omega)
  have cR : Int32.toNatClampNeg (nI r) = r := nI_clamp (by omega)
  have vpl : vp_in (nI l) 50 := vp_in_nI (by omega) (by decide)
  have vpr : vp_in (nI r) 50 := vp_in_nI (by omega) (by decide)
  have v21 := (hp.1 l (by omega)).1
  have v22 := (hp.1 r (by omega)).2
  refine Ev.of pn_X6_force (Nat.le_of_ble_eq_true rfl) ?_
  refine s_X6_force_0 hm.1 (by rw [r32]; omega) (by rw [r32]; exact k32) (by rw [r32, l32]; exact vpl) (fun _ => m_keep hm hp) (fun z0 h1 q _ _ => ?_) (fun z0 => ?_)
  · rw [r32, cL, v21] at z0
    have nr : mt 0 l ≠ some r := fun e => z0 (by rw [e]; rfl)
    obtain ⟨eo, kp⟩ := q
    obtain ⟨o1, o2, o3, -⟩ := id eo
    have hm1 := hm.eo eo
    have e30 : hR h1 y 30 = y + 19 := by rw [o3]; exact r30
    have e31 : hR h1 y 31 = y + 20 := by rw [o3]; exact r31
    have e32 : hR h1 y 32 = y + 21 := by rw [o3]; exact r32
    have e33 : hR h1 y 33 = y + 22 := by rw [o3]; exact r33
    have en1 := hN'.eo eo (by decide) (by decide)
    have ee1 := he.eo eo (by decide)
    have eq1 := hq.eo eo (by decide) (by decide)
    have em1 := (hp.eo eo (by decide) (by decide)).two
    have w21 : hI h1 (y + 21) l = e1 (mt 0 l) := (eo.i 21 rfl l).trans v21
    have w22 : hI h1 (y + 22) r = e1 (mt 1 r) := (eo.i 22 rfl r).trans v22
    have lt21 : e1 (mt 0 l) < 0 ↔ mt 0 l = none := e1_lt (hp.lt (by decide))
    have lt22 : e1 (mt 1 r) < 0 ↔ mt 1 r = none := e1_lt (hp.lt (by decide))
    -- both shut, and both open again
    have sh2 : ∀ h2 : PH, EQ h2 y n m op → EQ (sI (sI h2 (y + 19) l 1) (y + 20) r 1) y n m (cl (cl op 0 l) 1 r) := fun h2 q => (q.shut (s := 0) (i := l) (by decide) (by omega)).shut (s := 1) (i := r) (by decide) (by omega)
    have op2 : ∀ h2 : PH, EQ h2 y n m (cl (cl op 0 l) 1 r) → EQ (sI (sI h2 (y + 19) l 0) (y + 20) r 0) y n m op := fun h2 q => by
      rw [cl_comm] at q
      have a := q.opn (s := 0) (i := l) (by decide) (by omega) (by rw [cl_ne (fun z => absurd z.1 (by decide))]; exact hol) ⟨fun i z => hon.1 i (cl_iff.1 z).1, fun i z => hon.2 i (cl_iff.1 z).1⟩
      exact a.opn (s := 1) (i := r) (by decide) (by omega) hor hon
    have good : ∀ h2 : PH, EO y [19, 20, 21, 22, 23, 24, 25, 26] [38] h h2 → EN h2 y n m → EE h2 y n m A → EQ h2 y n m op → ∀ f f' : Nat → Option Nat, EM h2 y (two f f') → Great n A f f' → (∀ l b, f l = some b → op 0 l = op 1 b) → f l = some r → (∀ i, op 0 i = false → f i = mt 0 i) → (∀ i, op 1 i = false → f' i = mt 1 i) → ∀ e3 : Int32,
        RR G (hN h + 0) (hS h + 0) m_X6_force 135 [some (.ref y), some (.int (nI l)), some (.int (nI r)), some (.int e3), some (.int 1)] [] h2 (fun v h' => RI (FOK h y n m A mt op l r) v h' ∧ hN h' = hN h + 0 ∧ hS h' = hS h + 0) := by
      intro h2 eo2 en ee eq f f' em hG2 hoc2 hfl c0 c1 e3
      refine s_X6_force_135 ⟨⟨1, rfl, eo2, Or.inl ⟨rfl, two f f', ⟨hm.eo eo2, en, ee, eq, em⟩, hG2, hoc2, hfl, fun s i hs ho => ?_⟩⟩, eo2.2.2.2.1, eo2.2.2.2.2.1⟩ (Or.inr rfl)
      rcases (by omega : s = 0 ∨ s = 1) with es | es
      · subst es; exact c0 i ho
      · subst es; exact c1 i ho
    have ocn : ∀ f f' : Nat → Option Nat, IsM A f f' → f l = some r → (∀ a b, a ≠ l → f a = some b → mt 0 a = some b) → ∀ a b, f a = some b → op 0 a = op 1 b := by
      intro f f' hM hf hsub a b e
      by_cases ea : a = l
      · subst ea; rw [hf] at e; cases e; rw [hol, hor]
      · exact hoc a b (hsub a b ea e)
    have n35 : ∀ pl, mt 0 l = some pl → pl < 50 := fun pl e => (hp.2 0 l pl (by decide) e).2
    have n36 : ∀ pr, mt 1 r = some pr → pr < 50 := fun pr e => (hp.2 1 r pr (by decide) e).2
    refine s_X6_force_16 (P1 := fun _ _ => True) (P2 := fun x h' => ∃ pl pr h2, mt 0 l = some pl ∧ mt 1 r = some pr ∧ pl ≠ r ∧ EO y [19, 20, 21, 22] [] h1 h2 ∧ EQ h2 y n m (cl (cl op 0 l) 1 r) ∧ ((x = 1 ∧ EO y [21, 22, 25, 26] [38] h2 h' ∧ Grown h2 y n A (two (up (up (mt 0) pr none) l (some r)) (up (up (mt 1) pl none) r (some l))) (cl (cl op 0 l) 1 r) h') ∨ (x = 0 ∧ EO y [21, 22, 25, 26] [38] h2 h' ∧ EM h' y (two (up (up (mt 0) pr none) l (some r)) (up (up (mt 1) pl none) r (some l))) ∧ Cert A (two (up (up (mt 0) pr none) l (some r)) (up (up (mt 1) pl none) r (some l))) (cl (cl op 0 l) 1 r))))
      (by rw [o1]; exact hm.1) (by rw [e32]; omega) (by rw [o1, e32]; exact k32) (by rw [o2, e32, l32]; exact vpl) (by rw [e33]; omega) (by rw [o1, e33]; exact k33) (fun _ => by rw [o2, e33, l33]; exact vpr) (by rw [e30]; omega) (by rw [o1, e30]; exact k30) (fun _ _ => by rw [o2, e30, l30]; exact vpl) (by rw [e31]; omega) (by rw [o1, e31]; exact k31) (fun _ _ => by rw [o2, e31, l31]; exact vpr) (fun z1 z2 => ?_) (fun z1 z2 => ?_) (fun z1 z2 => ?_) (fun _ _ => by rw [o2, e30, l30]; exact vpl) (fun _ _ => by rw [o2, e31, l31]; exact vpr) (fun _ _ => by rw [o2, e30, l30]; exact vpl) (fun _ _ => by rw [o2, e31, l31]; exact vpr) (fun z1 z2 => ?_) (fun z1 => ?_) (fun _ => by rw [o2, e33, l33]; exact vpr) (fun _ _ => by rw [o2, e33, l33]; exact vpr) (fun _ _ => by rw [o2, e30, l30]; exact vpl) (fun _ _ => by rw [o2, e31, l31]; exact vpr) (fun _ _ => by rw [o2, e30, l30]; exact vpl) (fun _ _ => by rw [o2, e31, l31]; exact vpr) (fun z1 z2 => ?_) (fun _ _ => by rw [o2, e33, l33]; exact vpr) (fun z1 z2 => ?_) (fun _ _ => by rw [o2, e33, l33]; exact vpr) (fun _ _ => by rw [o2, e30, l30]; exact vpl) (fun _ _ => by rw [o2, e31, l31]; exact vpr) (fun z1 z2 => ?_) (fun z1 z2 x h2 q _ _ => ?_)
    · rw [e32, cL, w21, lt21] at z1
      rw [e33, cR, w22, lt22] at z2
      have a := hG.2 _ _ (hG.1.add hA z1 z2)
      rw [siz_up_some hl z1] at a; omega
    · rw [e32, cL, w21, lt21] at z1
      rw [e33, cR, w22, lt22] at z2
      have a := hG.2 _ _ (hG.1.add hA z1 z2)
      rw [siz_up_some hl z1] at a; omega
    · rw [e33, cR, w22, lt22] at z2
      obtain ⟨pr, hpr⟩ := Option.ne_none_iff_exists'.1 z2
      rw [e33, cR, w22, hpr, o2, e32, l32]; exact vp_in_nI (n36 pr hpr) (by decide)
    · rw [e32, cL, w21, lt21] at z1
      rw [e33, cR, w22, lt22] at z2
      obtain ⟨pr, hpr⟩ := Option.ne_none_iff_exists'.1 z2
      have cp : Int32.toNatClampNeg (nI pr) = pr := nI_clamp (by have := n36 pr hpr; omega)
      have hG2 := fo_2 hRg hG hA z1 hpr
      have h3 := (hG.1.1 _ _).2 hpr
      have hopr : op 0 pr = true := by rw [hoc pr r h3]; exact hor
      have em2 := (((em1.one (i := pr) (v := none) (n36 pr hpr) (fun j z => by cases z)).1.one (i := l) (v := some r) (by omega) (fun j z => by cases z; omega)).1.one (i := r) (v := some l) (by omega) (fun j z => by cases z; omega)).2
      rw [e30, e31, e32, e33, cL, cR, w22, hpr, show e1 (some pr) = nI pr from rfl, cp]
      have eoA : EO y [21, 22] [] h1 (sI (sI (sI h1 (y + 21) pr (-1)) (y + 21) l (nI r)) (y + 22) r (nI l)) := ((EO.cI (by decide) (by decide) (by decide)).trans (EO.cI (by decide) (by decide) (by decide))).trans (EO.cI (by decide) (by decide) (by decide))
      have em2 : EM (sI (sI (sI h1 (y + 21) pr (-1)) (y + 21) l (nI r)) (y + 22) r (nI l)) y (two (up (up (mt 0) pr none) l (some r)) (up (mt 1) r (some l))) := em2
      have eqA := eq1.eo eoA (by decide) (by decide)
      have enA := en1.eo eoA (by decide) (by decide)
      have eeA := ee1.eo eoA (by decide)
      generalize (sI (sI (sI h1 (y + 21) pr (-1)) (y + 21) l (nI r)) (y + 22) r (nI l)) = hA2 at *
      have eoB : EO y [19, 20] [] hA2 (sI (sI (sI (sI hA2 (y + 19) l 1) (y + 20) r 1) (y + 19) l 0) (y + 20) r 0) := (((EO.cI (by decide) (by decide) (by decide)).trans (EO.cI (by decide) (by decide) (by decide))).trans (EO.cI (by decide) (by decide) (by decide))).trans (EO.cI (by decide) (by decide) (by decide))
      refine good _ (((eo.wide (by decide) (by decide)).trans (eoA.wide (by decide) (by decide))).trans (eoB.wide (by decide) (by decide))) (enA.eo eoB (by decide) (by decide)) (eeA.eo eoB (by decide)) (op2 _ (sh2 _ eqA)) _ _ (em2.eo eoB (by decide) (by decide)) hG2 (ocn _ _ hG2.1 up_eq (fun a b ea e => ?_)) up_eq (fun i ho => ?_) (fun i ho => ?_) 0
      · rw [up_ne ea] at e
        by_cases ep : a = pr
        · rw [ep, up_eq] at e; cases e
        · rw [up_ne ep] at e; exact e
      · rw [up_ne (fun e => by rw [e, hol] at ho; cases ho), up_ne (fun e => by rw [e, hopr] at ho; cases ho)]
      · rw [up_ne (fun e => by rw [e, hor] at ho; cases ho)]
    · rw [e32, cL, w21, lt21] at z1
      obtain ⟨pl, hpl⟩ := Option.ne_none_iff_exists'.1 z1
      rw [e32, cL, w21, hpl, o2, e33, l33]; exact vp_in_nI (n35 pl hpl) (by decide)
    · rw [e32, cL, w21, lt21] at z1
      obtain ⟨pl, hpl⟩ := Option.ne_none_iff_exists'.1 z1
      have cp : Int32.toNatClampNeg (nI pl) = pl := nI_clamp (by have := n35 pl hpl; omega)
      have hne : r ≠ pl := fun e => nr (by rw [hpl, e])
      rw [e32, e33, cL, cR, w21, hpl, show e1 (some pl) = nI pl from rfl, cp, sI_nk hne, w22, lt22] at z2
      have hG2 := fo_1 hRg hG hA hpl z2
      have hopl : op 1 pl = true := by rw [← hoc l pl hpl]; exact hol
      have em2 := (((em1.one (i := pl) (v := none) (n35 pl hpl) (fun j z => by cases z)).2.one (i := l) (v := some r) (by omega) (fun j z => by cases z; omega)).1.one (i := r) (v := some l) (by omega) (fun j z => by cases z; omega)).2
      rw [e30, e31, e32, e33, cL, cR, w21, hpl, show e1 (some pl) = nI pl from rfl, cp]
      have eoA : EO y [21, 22] [] h1 (sI (sI (sI h1 (y + 22) pl (-1)) (y + 21) l (nI r)) (y + 22) r (nI l)) := ((EO.cI (by decide) (by decide) (by decide)).trans (EO.cI (by decide) (by decide) (by decide))).trans (EO.cI (by decide) (by decide) (by decide))
      have em2 : EM (sI (sI (sI h1 (y + 22) pl (-1)) (y + 21) l (nI r)) (y + 22) r (nI l)) y (two (up (mt 0) l (some r)) (up (up (mt 1) pl none) r (some l))) := em2
      have eqA := eq1.eo eoA (by decide) (by decide)
      have enA := en1.eo eoA (by decide) (by decide)
      have eeA := ee1.eo eoA (by decide)
      generalize (sI (sI (sI h1 (y + 22) pl (-1)) (y + 21) l (nI r)) (y + 22) r (nI l)) = hA2 at *
      have eoB : EO y [19, 20] [] hA2 (sI (sI (sI (sI hA2 (y + 19) l 1) (y + 20) r 1) (y + 19) l 0) (y + 20) r 0) := (((EO.cI (by decide) (by decide) (by decide)).trans (EO.cI (by decide) (by decide) (by decide))).trans (EO.cI (by decide) (by decide) (by decide))).trans (EO.cI (by decide) (by decide) (by decide))
      refine good _ (((eo.wide (by decide) (by decide)).trans (eoA.wide (by decide) (by decide))).trans (eoB.wide (by decide) (by decide))) (enA.eo eoB (by decide) (by decide)) (eeA.eo eoB (by decide)) (op2 _ (sh2 _ eqA)) _ _ (em2.eo eoB (by decide) (by decide)) hG2 (ocn _ _ hG2.1 up_eq (fun a b ea e => ?_)) up_eq (fun i ho => ?_) (fun i ho => ?_) 0
      · rw [up_ne ea] at e; exact e
      · rw [up_ne (fun e => by rw [e, hol] at ho; cases ho)]
      · rw [up_ne (fun e => by rw [e, hor] at ho; cases ho), up_ne (fun e => by rw [e, hopl] at ho; cases ho)]
    · rw [e32, cL, w21, lt21] at z1
      obtain ⟨pl, hpl⟩ := Option.ne_none_iff_exists'.1 z1
      have cp : Int32.toNatClampNeg (nI pl) = pl := nI_clamp (by have := n35 pl hpl; omega)
      have hne : r ≠ pl := fun e => nr (by rw [hpl, e])
      rw [e32, e33, cL, cR, w21, hpl, show e1 (some pl) = nI pl from rfl, cp, sI_nk hne, w22, lt22] at z2
      obtain ⟨pr, hpr⟩ := Option.ne_none_iff_exists'.1 z2
      rw [e32, e33, cL, cR, w21, hpl, show e1 (some pl) = nI pl from rfl, cp, sI_nk hne, w22, hpr, o2, l32]; exact vp_in_nI (n36 pr hpr) (by decide)
    · rw [e32, cL, w21, lt21] at z1
      obtain ⟨pl, hpl⟩ := Option.ne_none_iff_exists'.1 z1
      have cp : Int32.toNatClampNeg (nI pl) = pl := nI_clamp (by have := n35 pl hpl; omega)
      have hne : r ≠ pl := fun e => nr (by rw [hpl, e])
      rw [e32, e33, cL, cR, w21, hpl, show e1 (some pl) = nI pl from rfl, cp, sI_nk hne, w22, lt22] at z2
      obtain ⟨pr, hpr⟩ := Option.ne_none_iff_exists'.1 z2
      have cpr : Int32.toNatClampNeg (nI pr) = pr := nI_clamp (by have := n36 pr hpr; omega)
      obtain ⟨f1, f2, f3⟩ := fo_3 hRg hG hA hpl hpr hne.symm
      have em2 := ((((em1.one (i := pl) (v := none) (n35 pl hpl) (fun j z => by cases z)).2.one (i := pr) (v := none) (n36 pr hpr) (fun j z => by cases z)).1.one (i := l) (v := some r) (by omega) (fun j z => by cases z; omega)).1.one (i := r) (v := some l) (by omega) (fun j z => by cases z; omega)).2
      rw [e30, e31, e32, e33, cL, cR, w21, hpl, show e1 (some pl) = nI pl from rfl, cp, sI_nk hne, w22, hpr, show e1 (some pr) = nI pr from rfl, cpr]
      have eoA : EO y [21, 22] [] h1 (sI (sI (sI (sI h1 (y + 22) pl (-1)) (y + 21) pr (-1)) (y + 21) l (nI r)) (y + 22) r (nI l)) := (((EO.cI (by decide) (by decide) (by decide)).trans (EO.cI (by decide) (by decide) (by decide))).trans (EO.cI (by decide) (by decide) (by decide))).trans (EO.cI (by decide) (by decide) (by decide))
      have em2 : EM (sI (sI (sI (sI h1 (y + 22) pl (-1)) (y + 21) pr (-1)) (y + 21) l (nI r)) (y + 22) r (nI l)) y (two (up (up (mt 0) pr none) l (some r)) (up (up (mt 1) pl none) r (some l))) := em2
      have eqA := eq1.eo eoA (by decide) (by decide)
      have enA := en1.eo eoA (by decide) (by decide)
      have eeA := ee1.eo eoA (by decide)
      have hmA := hm1.eo eoA
      generalize (sI (sI (sI (sI h1 (y + 22) pl (-1)) (y + 21) pr (-1)) (y + 21) l (nI r)) (y + 22) r (nI l)) = hA2 at *
      have eoB : EO y [19, 20] [] hA2 (sI (sI hA2 (y + 19) l 1) (y + 20) r 1) := (EO.cI (by decide) (by decide) (by decide)).trans (EO.cI (by decide) (by decide) (by decide))
      have eqB := sh2 _ eqA
      exact (m_grow (hmA.eo eoB) (enA.eo eoB (by decide) (by decide)) (eeA.eo eoB (by decide)) eqB (em2.eo eoB (by decide) (by decide)) f1 (fun a b z => fo_oc hoc hG hpl hpr hne.symm a b z)).mono (fun v h2 q => by
        obtain ⟨x, e, q⟩ := q
        exact ⟨x, e, pl, pr, _, rfl, rfl, hne.symm, (eoA.wide (by decide) (by decide)).trans (eoB.wide (by decide) (by decide)), eqB, q⟩)
    · obtain ⟨pl, pr, h3, hpl, hpr, hne, eoA, eqA, q⟩ := q
      obtain ⟨f1, f2, f3⟩ := fo_3 hRg hG hA hpl hpr hne
      have hopl : op 1 pl = true := by rw [← hoc l pl hpl]; exact hol
      have h3' := (hG.1.1 _ _).2 hpr
      have hopr : op 0 pr = true := by rw [hoc pr r h3']; exact hor
      have eoC : EO y [21, 22, 25, 26] [38] h3 h2 := by rcases q with q | q; exact q.2.1; exact q.2.1
      have eo2 : EO y [19, 20, 21, 22, 23, 24, 25, 26] [38] h h2 := ((eo.wide (by decide) (by decide)).trans (eoA.wide (by decide) (by decide))).trans (eoC.wide (by decide) (by decide))
      have en2 := (en1.eo eoA (by decide) (by decide)).eo eoC (by decide) (by decide)
      have ee2 := (ee1.eo eoA (by decide)).eo eoC (by decide)
      have eq2 := eqA.eo eoC (by decide) (by decide)
      have kp2 := (kp.eo eoA (by decide) (by decide)).eo eoC (by decide) (by decide)
      obtain ⟨p1, p2, p3, -⟩ := id eo2
      have g30 : hR h2 y 30 = y + 19 := by rw [p3]; exact r30
      have g31 : hR h2 y 31 = y + 20 := by rw [p3]; exact r31
      have eoD : EO y [19, 20] [] h2 (sI (sI h2 (y + 19) l 0) (y + 20) r 0) := (EO.cI (by decide) (by decide) (by decide)).trans (EO.cI (by decide) (by decide) (by decide))
      have eq3 := op2 _ eq2
      have eo3 : EO y [19, 20, 21, 22, 23, 24, 25, 26] [38] h (sI (sI h2 (y + 19) l 0) (y + 20) r 0) := eo2.trans (eoD.wide (by decide) (by decide))
      refine s_X6_force_102 (P1 := fun h4 => EO y [21, 22] [] (sI (sI h2 (y + 19) l 0) (y + 20) r 0) h4 ∧ EM h4 y mt) (by rw [p1]; exact hm.1) (by rw [g30]; omega) (by rw [p1, g30]; exact k30) (fun _ => by rw [p2, g30, l30]; exact vpl) (by rw [g31]; omega) (by rw [p1, g31]; exact k31) (fun _ => by rw [p2, g31, l31]; exact vpr) (fun _ => by rw [g30, g31, cL, cR]; exact m_putBack (hm.eo eo3) (kp2.eo eoD (by decide) (by decide))) (fun z h4 q4 _ _ => ?_) (fun _ => by rw [p2, g30, l30]; exact vpl) (fun _ => by rw [p2, g31, l31]; exact vpr) (fun z => ?_)
      · rcases q with ⟨e, -⟩ | ⟨e, _, _, hC⟩
        · rw [e] at z; exact absurd z (by decide)
        · obtain ⟨eo4, em4⟩ := q4
          have eo5 : EO y [19, 20, 21, 22, 23, 24, 25, 26] [38] h h4 := eo3.trans (eo4.wide (by decide) (by decide))
          exact s_X6_force_135 ⟨⟨0, rfl, eo5, Or.inr ⟨rfl, ⟨hm.eo eo5, (en2.eo eoD (by decide) (by decide)).eo eo4 (by decide) (by decide), (ee2.eo eoD (by decide)).eo eo4 (by decide), eq3.eo eo4 (by decide) (by decide), em4⟩, fo_no hRg hG hoc hol hor hA hpl hpr hne hC⟩⟩, eo5.2.2.2.1, eo5.2.2.2.2.1⟩ (Or.inl rfl)
      · rcases q with ⟨e, _, mt', g1, g2, g3, g4, g5⟩ | ⟨e, -⟩
        · rw [g30, g31, cL, cR]
          have hfl : mt' 0 l = some r := by
            rw [g5 0 l (by decide) (by rw [cl_ne (fun z => absurd z.1 (by decide)), cl_self])]
            exact up_eq
          have g4 : siz n (mt' 0) = siz n (up (up (mt 0) pr none) l (some r)) + 1 := g4
          have hG3 : Great n A (mt' 0) (mt' 1) := great_same hG g2 (by omega)
          refine good _ eo3 (en2.eo eoD (by decide) (by decide)) (ee2.eo eoD (by decide)) eq3 (mt' 0) (mt' 1) (g1.two.eo eoD (by decide) (by decide)) hG3 (fun a b e => ?_) hfl (fun i ho => ?_) (fun i ho => ?_) 1
          · by_cases ea : a = l
            · subst ea; rw [hfl] at e; cases e; rw [hol, hor]
            · have hbr : b ≠ r := fun z => by
                subst z
                exact ea (Option.some.inj (((g2.1 _ _).1 e).symm.trans ((g2.1 _ _).1 hfl)))
              have := g3 a b e
              rw [cl_ne (fun z => absurd z.1 (by decide)), cl_ne (fun z => ea z.2), cl_ne (fun z => hbr z.2), cl_ne (fun z => absurd z.1 (by decide))] at this
              exact this
          · have hil : i ≠ l := fun e => by rw [e, hol] at ho; cases ho
            rw [g5 0 i (by decide) (by rw [cl_ne (fun z => absurd z.1 (by decide)), cl_ne (fun z => hil z.2)]; exact ho)]
            show up (up (mt 0) pr none) l (some r) i = _
            rw [up_ne hil, up_ne (fun e => by rw [e, hopr] at ho; cases ho)]
          · have hir : i ≠ r := fun e => by rw [e, hor] at ho; cases ho
            rw [g5 1 i (by decide) (by rw [cl_ne (fun z => hir z.2), cl_ne (fun z => absurd z.1 (by decide))]; exact ho)]
            show up (up (mt 1) pl none) r (some l) i = _
            rw [up_ne hir, up_ne (fun e => by rw [e, hopl] at ho; cases ho)]
        · exact (z e).elim
  · rw [r32, cL, v21] at z0
    have e : mt 0 l = some r := by
      cases e : mt 0 l with
      | none =>
        rw [e] at z0
        have := nI_pos (n := r) (by omega)
        rw [← z0] at this; exact (this (by decide)).elim
      | some k =>
        rw [e] at z0
        have := (hp.2 0 l k (by decide) e).2
        rw [(nI_eq (by omega) (by omega)).1 z0]
    exact ⟨⟨1, rfl, EO.rf, Or.inl ⟨rfl, mt, hg, hG, hoc, e, fun _ _ _ _ => rfl⟩⟩, rfl, rfl⟩
