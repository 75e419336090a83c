/-- the planes agree from lo on, below hi -/
def AG (lo hi : Nat) (h h' : PH) : Prop := ∀ a, lo ≤ a → a < hi → hK h' a = hK h a ∧ hL h' a = hL h a ∧ (∀ j, hR h' a j = hR h a j) ∧ (∀ j, hI h' a j = hI h a j) ∧ ∀ j, hJ h' a j = hJ h a j
theorem AG.rf {lo hi : Nat} {h : PH} : AG lo hi h h := fun _ _ _ => ⟨rfl, rfl, fun _ => rfl, fun _ => rfl, fun _ => rfl⟩
theorem AG.trans {lo hi : Nat} {h h1 h2 : PH} (a : AG lo hi h h1) (c : AG lo hi h1 h2) : AG lo hi h h2 := fun x p q => by
  obtain ⟨a1, a2, a3, a4, a5⟩ := a x p q
  obtain ⟨c1, c2, c3, c4, c5⟩ := c x p q
  exact ⟨c1.trans a1, c2.trans a2, fun j => (c3 j).trans (a3 j), fun j => (c4 j).trans (a4 j), fun j => (c5 j).trans (a5 j)⟩
theorem AG.sub {lo hi lo' hi' : Nat} {h h' : PH} (a : AG lo hi h h') (h1 : lo ≤ lo') (h2 : hi' ≤ hi) : AG lo' hi' h h' := fun x p q => a x (by omega) (by omega)
theorem SO.ag {lo hi x z : Nat} {h h' : PH} (so : SO lo hi h h') (hd : z ≤ lo ∨ hi ≤ x) : AG x z h h' := fun a p q => by
  obtain ⟨o1, o2, o3, o4, o5, o6⟩ := so
  have := o6 a (by omega)
  exact ⟨by rw [o1], by rw [o2], fun j => by rw [o3], this.1, this.2⟩
theorem TO.ag {t B x z : Nat} {h h' : PH} (to : TO t B h h') (hB : z ≤ B) (hd : z ≤ t ∨ t + 4 ≤ x) : AG x z h h' := fun a p q => by
  obtain ⟨o1, o2, o3, o4⟩ := to
  have := o4 a (by omega) (by omega)
  exact ⟨(o2 a (by omega)).1, (o2 a (by omega)).2, fun j => o3 a (by omega) j (by omega), this.1, this.2⟩
variable {h h' : PH} {g p b o m : Nat} {sz : Nat → Nat} {E : Nat → Nat → Bool} {mt : Nat → Nat → Option Nat} {op : Nat → Nat → Bool} {f' : Nat → Option Nat}
theorem GL.ag (hg : GL h g m) (a : AG g (g + 5) h h') : GL h' g m := by
  have a0 := a g (by omega) (by omega)
  have a1 := a (g + 1) (by omega) (by omega)
  have a2 := a (g + 2) (by omega) (by omega)
  obtain ⟨q1, q2, q3, q4, q5, q6, q7, q8, q9, q10⟩ := hg
  refine ⟨a0.1.trans q1, a1.1.trans q2, a1.2.1.trans q3, a2.1.trans q4, a2.2.1.trans q5, fun s hs => ?_, (a0.2.2.1 1).trans q7, (a0.2.2.1 2).trans q8, (a0.2.2.2.1 0).trans q9, q10⟩
  have a3 := a (g + 3 + s) (by omega) (by omega)
  obtain ⟨z1, z2, z3⟩ := q6 s hs
  exact ⟨a3.1.trans z1, a3.2.1.trans z2, (a2.2.2.1 s).trans z3⟩
theorem GS.ag (hg : GS h g m sz E) (a : AG g (g + 5) h h') : GS h' g m sz E := by
  obtain ⟨q1, q2, q3, q4⟩ := hg
  refine ⟨q1.ag a, fun s hs => ?_, fun s hs i hi j => ?_, q4⟩
  · rw [(a (g + 1) (by omega) (by omega)).2.2.2.1]; exact q2 s hs
  · rw [(a (g + 3 + s) (by omega) (by omega)).2.2.2.2]; exact q3 s hs i hi j
theorem PL.ag (hp : PL h p g m) (a : AG p (p + 11) h h') : PL h' p g m := by
  have a0 := a p (by omega) (by omega)
  have a1 := a (p + 1) (by omega) (by omega)
  have a4 := a (p + 4) (by omega) (by omega)
  have a5 := a (p + 5) (by omega) (by omega)
  have a6 := a (p + 6) (by omega) (by omega)
  have a9 := a (p + 9) (by omega) (by omega)
  have a10 := a (p + 10) (by omega) (by omega)
  obtain ⟨q1, q2, q3, q4, q5, q6, q7, q8, q9, q10, q11, q12, q13, q14, q15, q16, q17, q18, q19, q20⟩ := hp
  refine ⟨a0.1.trans q1, (a0.2.2.1 0).trans q2, (a0.2.2.1 1).trans q3, (a0.2.2.1 2).trans q4, (a0.2.2.1 3).trans q5, (a0.2.2.1 4).trans q6, (a0.2.2.1 5).trans q7, (a0.2.2.1 6).trans q8, a1.1.trans q9, a1.2.1.trans q10, fun s hs => ?_, ⟨a4.1.trans q12.1, a4.2.1.trans q12.2⟩, ⟨a5.1.trans q13.1, a5.2.1.trans q13.2⟩, ⟨a6.1.trans q14.1, a6.2.1.trans q14.2⟩, fun s hs => ?_, ⟨a9.1.trans q16.1, a9.2.1.trans q16.2⟩, ⟨a10.1.trans q17.1, a10.2.1.trans q17.2⟩, q18, q19, q20⟩
  · have a3 := a (p + 2 + s) (by omega) (by omega)
    obtain ⟨z1, z2, z3⟩ := q11 s hs
    exact ⟨a3.1.trans z1, a3.2.1.trans z2, (a1.2.2.1 s).trans z3⟩
  · have a3 := a (p + 7 + s) (by omega) (by omega)
    obtain ⟨z1, z2, z3⟩ := q15 s hs
    exact ⟨a3.1.trans z1, a3.2.1.trans z2, (a6.2.2.1 s).trans z3⟩
theorem PS.ag (hp : PS h p m mt op) (a : AG p (p + 11) h h') : PS h' p m mt op := by
  obtain ⟨q1, q2, q3, q4⟩ := hp
  refine ⟨fun s hs i hi => ?_, q2, fun s hs i => ?_, fun s hs i => ?_⟩
  · rw [(a (p + 2 + s) (by omega) (by omega)).2.2.2.1]; exact q1 s hs i hi
  · rw [(a (p + 4) (by omega) (by omega)).2.2.2.2]; exact q3 s hs i
  · rw [(a (p + 5) (by omega) (by omega)).2.2.2.2]; exact q4 s hs i
theorem PP.ag (hp : PP h p sz E) (a : AG p (p + 11) h h') : PP h' p sz E := by
  intro s hs
  rw [(a (p + 7 + s) (by omega) (by omega)).2.2.2.2, (a (p + 7 + s) (by omega) (by omega)).2.2.2.2, (a (p + 7 + s) (by omega) (by omega)).2.2.2.2]
  exact hp s hs
theorem PF.ag (hp : PF h p m sz E) (a : AG p (p + 11) h h') : PF h' p m sz E := by
  obtain ⟨mt, q1, q2, q3, q4⟩ := hp
  exact ⟨mt, q1.ag a, q2, ((a p (by omega) (by omega)).2.2.2.1 7).trans q3, q4.ag a⟩
theorem BL.ag (hb : BL h b p g) (a : AG b (b + 5) h h') : BL h' b p g := by
  have a0 := a b (by omega) (by omega)
  have a1 := a (b + 1) (by omega) (by omega)
  have a2 := a (b + 2) (by omega) (by omega)
  have a3 := a (b + 3) (by omega) (by omega)
  have a4 := a (b + 4) (by omega) (by omega)
  obtain ⟨q1, q2, q3, q4, q5, q6, q7, q8, q9, q10, q11, q12, q13⟩ := hb
  exact ⟨a0.1.trans q1, (a0.2.2.1 0).trans q2, (a0.2.2.1 1).trans q3, (a0.2.2.1 2).trans q4, (a0.2.2.1 3).trans q5, (a0.2.2.1 4).trans q6, ⟨a1.1.trans q7.1, a1.2.1.trans q7.2⟩, ⟨a2.1.trans q8.1, a2.2.1.trans q8.2⟩, ⟨a3.1.trans q9.1, a3.2.1.trans q9.2⟩, q10, q11, (a0.2.2.1 5).trans q12, a4.1.trans q13.1, a4.2.1.trans q13.2⟩
theorem BFx.ag (hb : BFx h b sz E f') (a : AG b (b + 5) h h') : BFx h' b sz E f' := by
  obtain ⟨q1, q2, q3, q4, q5⟩ := hb
  refine ⟨fun l hl j => ?_, ((a b (by omega) (by omega)).2.2.2.1 6).trans q2, fun l hl => ?_, fun q hq l => ?_, fun q hq l => ?_⟩
  · rw [(a (b + 1) (by omega) (by omega)).2.2.2.2]; exact q1 l hl j
  · rw [(a (b + 2) (by omega) (by omega)).2.2.2.1]; exact q3 l hl
  · rw [(a (b + 3) (by omega) (by omega)).2.2.2.2]; exact q4 q hq l
  · rw [(a (b + 4) (by omega) (by omega)).2.2.2.2]; exact q5 q hq l
theorem BF.ag (hb : BF h b sz E) (a : AG b (b + 5) h h') : BF h' b sz E := fun f f' q => (hb f f' q).ag a
theorem OL.ag (ho : OL h o p g) (a : AG o (o + 3) h h') : OL h' o p g := by
  have a0 := a o (by omega) (by omega)
  have a1 := a (o + 1) (by omega) (by omega)
  have a2 := a (o + 2) (by omega) (by omega)
  obtain ⟨q1, q2, q3, q4, q5, q6, q7, q8, q9⟩ := ho
  exact ⟨a0.1.trans q1, (a0.2.2.1 0).trans q2, (a0.2.2.1 1).trans q3, (a0.2.2.1 2).trans q4, (a0.2.2.1 3).trans q5, ⟨a1.1.trans q6.1, a1.2.1.trans q6.2⟩, ⟨a2.1.trans q7.1, a2.2.1.trans q7.2⟩, q8, q9⟩
theorem OF.ag (ho : OF h o sz E) (a : AG o (o + 3) h h') : OF h' o sz E := by
  obtain ⟨⟨q1, H, q2, q3⟩, q4⟩ := ho
  refine ⟨⟨fun t ht => ?_, H, q2, ((a o (by omega) (by omega)).2.2.2.1 4).trans q3⟩, fun f f' z => ?_⟩
  · rw [(a (o + 1) (by omega) (by omega)).2.2.2.1]; exact q1 t ht
  · obtain ⟨c, z1, z2, z3⟩ := q4 f f' z
    refine ⟨c, z1, fun x hx => ?_, z3⟩
    rw [(a (o + 2) (by omega) (by omega)).2.2.2.1]; exact z2 x hx
