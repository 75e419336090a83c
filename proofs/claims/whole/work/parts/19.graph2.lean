section GRAPH2
/-- the planes differ at cells lo .. hi - 1 alone, in ints and longs alone -/
def SO (lo hi : Nat) (h h' : PH) : Prop := hK h' = hK h ∧ hL h' = hL h ∧ hR h' = hR h ∧ hN h' = hN h ∧ hS h' = hS h ∧ ∀ b, ¬ (lo ≤ b ∧ b < hi) → (∀ j, hI h' b j = hI h b j) ∧ ∀ j, hJ h' b j = hJ h b j
theorem SO.rf {lo hi : Nat} {h : PH} : SO lo hi h h := ⟨rfl, rfl, rfl, rfl, rfl, fun _ _ => ⟨fun _ => rfl, fun _ => rfl⟩⟩
theorem SO.trans {lo hi : Nat} {h h1 h2 : PH} (a : SO lo hi h h1) (b : SO lo hi h1 h2) : SO lo hi h h2 := by
  obtain ⟨a1, a2, a3, a4, a5, a6⟩ := a
  obtain ⟨b1, b2, b3, b4, b5, b6⟩ := b
  exact ⟨b1.trans a1, b2.trans a2, b3.trans a3, b4.trans a4, b5.trans a5, fun c hc => ⟨fun j => ((b6 c hc).1 j).trans ((a6 c hc).1 j), fun j => ((b6 c hc).2 j).trans ((a6 c hc).2 j)⟩⟩
theorem SO.wide {lo hi lo' hi' : Nat} {h h1 : PH} (a : SO lo hi h h1) (q1 : lo' ≤ lo) (q2 : hi ≤ hi') : SO lo' hi' h h1 := by
  obtain ⟨a1, a2, a3, a4, a5, a6⟩ := a
  exact ⟨a1, a2, a3, a4, a5, fun c hc => a6 c (fun q => hc ⟨by omega, by omega⟩)⟩
theorem SO.sI {lo hi a k : Nat} {v : Int32} {h : PH} (h1 : lo ≤ a) (h2 : a < hi) : SO lo hi h (sI h a k v) :=
  ⟨rfl, rfl, rfl, rfl, rfl, fun b hb => ⟨fun j => u2_ne (fun e => hb (by rw [e]; exact ⟨h1, h2⟩)), fun _ => rfl⟩⟩
theorem SO.sJ {lo hi a k : Nat} {v : Int64} {h : PH} (h1 : lo ≤ a) (h2 : a < hi) : SO lo hi h (sJ h a k v) :=
  ⟨rfl, rfl, rfl, rfl, rfl, fun b hb => ⟨fun _ => rfl, fun j => u2_ne (fun e => hb (by rw [e]; exact ⟨h1, h2⟩))⟩⟩
theorem hI_sI {h : PH} {a k b j : Nat} {v : Int32} : hI (sI h a k v) b j = if b = a ∧ j = k then v else hI h b j := rfl
theorem hJ_sJ {h : PH} {a k b j : Nat} {v : Int64} : hJ (sJ h a k v) b j = if b = a ∧ j = k then v else hJ h b j := rfl
theorem sI_ne {h : PH} {a k b j : Nat} {v : Int32} (e : b ≠ a) : hI (sI h a k v) b j = hI h b j := u2_ne e
theorem sI_nk {h : PH} {a k b j : Nat} {v : Int32} (e : j ≠ k) : hI (sI h a k v) b j = hI h b j := u2_nk e
theorem sI_eq {h : PH} {a k : Nat} {v : Int32} : hI (sI h a k v) a k = v := u2_eq
theorem sJ_ne {h : PH} {a k b j : Nat} {v : Int64} (e : b ≠ a) : hJ (sJ h a k v) b j = hJ h b j := u2_ne e
theorem sJ_nk {h : PH} {a k b j : Nat} {v : Int64} (e : j ≠ k) : hJ (sJ h a k v) b j = hJ h b j := u2_nk e
theorem sJ_eq {h : PH} {a k : Nat} {v : Int64} : hJ (sJ h a k v) a k = v := u2_eq
theorem hI_sJ {h : PH} {a k : Nat} {v : Int64} : hI (sJ h a k v) = hI h := rfl
theorem hJ_sI {h : PH} {a k : Nat} {v : Int32} : hJ (sI h a k v) = hJ h := rfl
variable {G : GG} {h : PH} {g m : Nat} {sz : Nat → Nat} {E : Nat → Nat → Bool}
theorem GL.so {h' : PH} {lo hi : Nat} (hg : GL h g m) (ho : SO lo hi h h') (h0 : hI h' g 0 = hI h g 0) : GL h' g m := by
  obtain ⟨a1, a2, a3, -⟩ := ho
  unfold GL at *
  rw [a1, a2, a3, h0]
  exact hg
/-- a graph whose own cells are untouched -/
theorem GS.so {h' : PH} {lo hi : Nat} (hg : GS h g m sz E) (ho : SO lo hi h h') (hd : g + 5 ≤ lo ∨ hi ≤ g) : GS h' g m sz E := by
  obtain ⟨q1, q2, q3, q4⟩ := hg
  have ho' := ho
  obtain ⟨a1, a2, a3, a4, a5, a6⟩ := ho
  refine ⟨q1.so ho' ((a6 g (by omega)).1 0), fun s hs => ?_, fun s hs i hi j => ?_, q4⟩
  · rw [(a6 (g + 1) (by omega)).1 s]; exact q2 s hs
  · rw [(a6 (g + 3 + s) (by omega)).2 i]; exact q3 s hs i hi j
/-- the right nodes of a set's members -/
def nbr (row : Nat → Int64) (set : Int64) : Nat → Int64
  | 0 => 0
  | n + 1 => if bt set n then nbr row set n ||| row n else nbr row set n
theorem bt_nbr (row : Nat → Int64) (set : Int64) (n j : Nat) : bt (nbr row set n) j = true ↔ ∃ i, i < n ∧ bt set i = true ∧ bt (row i) j = true := by
  induction n with
  | zero => simp [nbr, bt_zero]
  | succ n ih =>
    unfold nbr
    by_cases hb : bt set n = true
    · rw [if_pos hb, bt_or, Bool.or_eq_true, ih]
      constructor
      · rintro (⟨i, h1, h2, h3⟩ | h1)
        · exact ⟨i, by omega, h2, h3⟩
        · exact ⟨n, by omega, hb, h1⟩
      · rintro ⟨i, h1, h2, h3⟩
        rcases Nat.lt_or_ge i n with q | q
        · exact Or.inl ⟨i, q, h2, h3⟩
        · have : i = n := by omega
          subst this; exact Or.inr h3
    · rw [if_neg hb, ih]
      constructor
      · rintro ⟨i, h1, h2, h3⟩; exact ⟨i, by omega, h2, h3⟩
      · rintro ⟨i, h1, h2, h3⟩
        rcases Nat.lt_or_ge i n with q | q
        · exact ⟨i, q, h2, h3⟩
        · have : i = n := by omega
          subst this; exact absurd h2 hb
theorem nb_loop {nc ns : Nat} {Z : Option Value → PH → Prop} (hg : GS h g m sz E) {s : Nat} (hs2 : s < 2) (set : Int64) (hz : Z (some (.long (nbr (hJ h (g + 3 + s)) set (sz s)))) h) : ∀ d k, k + d = sz s →
    RR G nc ns m_X1_neighbours 6 [some (.ref g), some (.int (nI s)), some (.long set), none, some (.long (nbr (hJ h (g + 3 + s)) set k)), none, some (.int (nI k))] [] h Z := by
  have hg' := hg
  obtain ⟨⟨k0, k1, l1, k2, l2, kr, r1, r2, im, hm⟩, hs, hb, hE⟩ := hg
  obtain ⟨a1, a2, a3⟩ := kr s hs2
  have hsm := (hs s hs2).2
  have ei : Int32.toNatClampNeg (nI s) = s := nI_clamp (by omega)
  intro d
  induction d with
  | zero =>
    intro k hk
    have e : k = sz s := by omega
    subst e
    exact s_X1_neighbours_6 (x2 := 0) (ev_sizeOf hg' hs2) k0 (fun _ => hz) (fun q => absurd (nI_le (Nat.le_refl _) (by omega)) q) (fun q => absurd (nI_le (Nat.le_refl _) (by omega)) q) (by rw [r2]; omega) (Or.inr (by rw [r2]; exact k2)) (fun q => absurd (nI_le (Nat.le_refl _) (by omega)) q) (fun q => absurd (nI_le (Nat.le_refl _) (by omega)) q) (fun q => absurd (nI_le (Nat.le_refl _) (by omega)) q) (fun q => absurd (nI_le (Nat.le_refl _) (by omega)) q) (fun q => absurd (nI_le (Nat.le_refl _) (by omega)) q)
  | succ d ih =>
    intro k hk
    have hlt : k < sz s := by omega
    have ih1 := ih (k + 1) (by omega)
    rw [← nI_1] at ih1
    unfold nbr at ih1
    refine s_X1_neighbours_6 (x2 := b2i (bt set k)) (ev_sizeOf hg' hs2) k0 (fun q => absurd q (nI_ge hlt (by omega))) (fun _ => ev_contains set (by omega)) (fun _ q => ?_) (by rw [r2]; omega) (Or.inr (by rw [r2]; exact k2)) (fun _ _ => by rw [r2, l2]; exact vp_in_nI hs2 (by decide)) (fun _ _ => by rw [r2, ei, a3]; omega) (fun _ _ => by rw [r2, ei, a3]; exact a1) (fun _ _ => by rw [r2, ei, a3, a2]; exact vp_in_nI (by omega) (by omega)) (fun _ q => ?_)
    · rw [if_neg (by rw [b2i_0.mp q]; decide)] at ih1
      exact ih1
    · rw [if_pos (b2i_n.mp q)] at ih1
      rw [r2, ei, a3, nI_clamp (by omega)]
      exact ih1
theorem ev_neighbours (hg : GS h g m sz E) {s : Nat} (hs2 : s < 2) (set : Int64) : Ev G m_X1_neighbours [.ref g, .int (nI s), .long set] h 0 0 (Ret (some (.long (nbr (hJ h (g + 3 + s)) set (sz s)))) h) := by
  refine Ev.of pn_X1_neighbours (Nat.le_of_ble_eq_true rfl) ?_
  refine s_X1_neighbours_0 ?_
  have := nb_loop (G := G) (nc := hN h + 0) (ns := hS h + 0) hg hs2 set (Z := fun v h' => Ret (some (.long (nbr (hJ h (g + 3 + s)) set (sz s)))) h v h' ∧ hN h' = hN h + 0 ∧ hS h' = hS h + 0) Zok (sz s) 0 (by omega)
  exact this
/-- how many edges -/
def esum (row : Nat → Int64) : Nat → Nat
  | 0 => 0
  | n + 1 => esum row n + cnt 64 (bt (row n))
theorem ed_loop {nc ns : Nat} {Z : Option Value → PH → Prop} (hg : GS h g m sz E) (hz : Z (some (.int (nI (esum (hJ h (g + 3)) (sz 0))))) h) : ∀ d k, k + d = sz 0 →
    RR G nc ns m_X1_edges 4 [some (.ref g), some (.int (nI (esum (hJ h (g + 3)) k))), some (.int (nI k))] [] h Z := by
  obtain ⟨⟨k0, k1, l1, k2, l2, kr, r1, r2, im, hm⟩, hs, hb, hE⟩ := hg
  obtain ⟨a1, a2, a3⟩ := kr 0 (by decide)
  obtain ⟨i1, hsm⟩ := hs 0 (by decide)
  intro d
  induction d with
  | zero =>
    intro k hk
    have e : k = sz 0 := by omega
    subst e
    have no : ¬ hI h (hR h g 1) 0 ≤ nI (sz 0) → False := fun q => q (by rw [r1, i1]; exact nI_le (Nat.le_refl _) (by omega))
    exact s_X1_edges_4 (x1 := 0) k0 (by rw [r1]; omega) (by rw [r1]; exact k1) (by rw [r1, l1]; exact vp_in_nI (n := 0) (by decide) (by decide)) (fun _ => hz) (by rw [r2]; omega) (Or.inr (by rw [r2]; exact k2)) (fun q => (no q).elim) (by rw [r2, a3]; omega) (by rw [r2, a3]; exact a1) (fun q => (no q).elim) (fun q => (no q).elim) (fun q => (no q).elim)
  | succ d ih =>
    intro k hk
    have hlt : k < sz 0 := by omega
    have ih1 := ih (k + 1) (by omega)
    rw [← nI_1] at ih1
    unfold esum at ih1
    rw [← nI_add] at ih1
    refine s_X1_edges_4 (x1 := nI (cnt 64 (bt (hJ h (g + 3) k)))) k0 (by rw [r1]; omega) (by rw [r1]; exact k1) (by rw [r1, l1]; exact vp_in_nI (n := 0) (by decide) (by decide)) (fun q => ?_) (by rw [r2]; omega) (Or.inr (by rw [r2]; exact k2)) (fun _ => by rw [r2, l2]; exact vp_in_nI (n := 0) (by decide) (by decide)) (by rw [r2, a3]; omega) (by rw [r2, a3]; exact a1) (fun _ => by rw [r2, a3, a2]; exact vp_in_nI (by omega) (by omega)) (fun _ => ?_) (fun _ => ih1)
    · rw [r1, i1] at q
      exact absurd q (nI_ge hlt (by omega))
    · rw [r2, a3, nI_clamp (by omega)]
      exact ev_bc64 _
theorem ev_edges (hg : GS h g m sz E) : Ev G m_X1_edges [.ref g] h 0 0 (Ret (some (.int (nI (esum (hJ h (g + 3)) (sz 0))))) h) := by
  refine Ev.of pn_X1_edges (Nat.le_of_ble_eq_true rfl) ?_
  refine s_X1_edges_0 ?_
  exact ed_loop (G := G) (nc := hN h + 0) (ns := hS h + 0) hg (Z := fun v h' => Ret (some (.int (nI (esum (hJ h (g + 3)) (sz 0))))) h v h' ∧ hN h' = hN h + 0 ∧ hS h' = hS h + 0) Zok (sz 0) 0 (by omega)
theorem ev_changes (hg : GL h g m) : Ev G m_X1_changes [.ref g] h 0 0 (Ret (some (.int (hI h g 3))) h) := by
  refine Ev.of pn_X1_changes (Nat.le_of_ble_eq_true rfl) ?_
  exact s_X1_changes_0 hg.1 Zok
theorem ev_most (hg : GL h g m) : Ev G m_X1_most [.ref g] h 0 0 (Ret (some (.int (nI m))) h) := by
  refine Ev.of pn_X1_most (Nat.le_of_ble_eq_true rfl) ?_
  refine s_X1_most_0 hg.1 ?_
  rw [hg.2.2.2.2.2.2.2.2.1]
  exact Zok
end GRAPH2
