def c64 (n : Nat) : Int64 := Int64.ofNat n
theorem c64_add (a b : Nat) : c64 (a + b) = c64 a + c64 b := Int64.ofNat_add a b
theorem c64_mul (a b : Nat) : c64 (a * b) = c64 a * c64 b := Int64.ofNat_mul a b
def s64 : Nat → (Nat → Int64) → Int64
  | 0, _ => 0
  | n + 1, f => s64 n f + f n
theorem s64_congr {f g : Nat → Int64} : ∀ n, (∀ i, i < n → f i = g i) → s64 n f = s64 n g
  | 0, _ => rfl
  | n + 1, h => by
    show s64 n f + f n = s64 n g + g n
    rw [s64_congr n (fun i hi => h i (by omega)), h n (by omega)]
/-- a sum in which one place has more -/
theorem s64_one {f g : Nat → Int64} {y : Nat} {v : Int64} : ∀ n, y < n → (∀ i, i < n → i ≠ y → f i = g i) → f y = g y + v → s64 n f = s64 n g + v
  | 0, h, _, _ => absurd h (by omega)
  | n + 1, h, h1, h2 => by
    show s64 n f + f n = s64 n g + g n + v
    by_cases e : y = n
    · subst e
      rw [s64_congr y (fun i hi => h1 i (by omega) (by omega)), h2]
      grind
    · rw [s64_one n (by omega) (fun i hi => h1 i (by omega)) h2, h1 n (by omega) (fun q => e q.symm)]
      grind
def Phi (K x : Nat) (W : Nat → Int64) (F : Nat → Nat) : Int64 := s64 K (fun y => if x ≤ y then W y * c64 (F y) else 0)
theorem Phi_step {K x : Nat} {W : Nat → Int64} {F : Nat → Nat} (hx : x < K) : Phi K x W F = Phi K (x + 1) W F + W x * c64 (F x) := by
  refine s64_one K hx (fun i _ hi => ?_) ?_
  · by_cases q : x ≤ i
    · rw [if_pos q, if_pos (by omega)]
    · rw [if_neg q, if_neg (by omega)]
  · rw [if_pos (Nat.le_refl _), if_neg (by omega)]; grind
theorem Phi_upd {K x y : Nat} {W W' : Nat → Int64} {F : Nat → Nat} {v : Int64} (hy : y < K) (hxy : x ≤ y) (h1 : ∀ i, i ≠ y → W' i = W i) (h2 : W' y = W y + v) : Phi K x W' F = Phi K x W F + v * c64 (F y) := by
  refine s64_one K hy (fun i _ hi => ?_) ?_
  · rw [h1 i hi]
  · rw [if_pos hxy, if_pos hxy, h2]; grind
theorem s64_zero {f : Nat → Int64} : ∀ n, (∀ i, i < n → f i = 0) → s64 n f = 0
  | 0, _ => rfl
  | n + 1, h => by
    show s64 n f + f n = 0
    rw [s64_zero n (fun i hi => h i (by omega)), h n (by omega)]; rfl
theorem Phi_end {K : Nat} {W : Nat → Int64} {F : Nat → Nat} : Phi K K W F = 0 := s64_zero K (fun i hi => if_neg (by omega))
theorem Phi_start {K : Nat} {W : Nat → Int64} {F : Nat → Nat} (hK0 : 0 < K) (h0 : W 0 = 1) (h : ∀ i, i < K → i ≠ 0 → W i = 0) : Phi K 0 W F = c64 (F 0) := by
  have e := s64_one (f := fun y => if 0 ≤ y then W y * c64 (F y) else 0) (g := fun _ => 0) (y := 0) (v := c64 (F 0)) K hK0 (fun i hi hn => by rw [if_pos (Nat.zero_le _), h i hi hn]; grind) (by rw [if_pos (Nat.le_refl _), h0]; grind)
  rw [s64_zero (f := fun _ => 0) K (fun _ _ => rfl)] at e
  show s64 K _ = _
  rw [e]; grind
def FA (A : Nat → Nat → Bool) (C R x : Nat) : Nat := if pc x ≤ R then Tk A C R (R - pc x) (pc x) (fun k => x.testBit k) (pc x) else 0
def GA (A : Nat → Nat → Bool) (C R x c : Nat) : Nat := if A (pc x) c = true ∧ x.testBit c = false then FA A C R (x ||| 2 ^ c) else 0
theorem sm_congr {f g : Nat → Nat} : ∀ n, (∀ i, i < n → f i = g i) → sm n f = sm n g
  | 0, _ => rfl
  | n + 1, h => by
    show sm n f + f n = sm n g + g n
    rw [sm_congr n (fun i hi => h i (by omega)), h n (by omega)]
theorem FA_lt {A : Nat → Nat → Bool} {C R x : Nat} (hC : C ≤ 16) (h : pc x < R) : FA A C R x = sm C (GA A C R x) := by
  unfold FA
  rw [if_pos (by omega)]
  obtain ⟨d, hd⟩ : ∃ d, R - pc x = d + 1 := ⟨R - pc x - 1, by omega⟩
  rw [hd]
  show Tk A C R d (pc x + 1) _ (pc x) + sm C _ = _
  rw [Tk_zero A C R d _ _ _ (by omega), Nat.zero_add]
  refine sm_congr C (fun c hc => ?_)
  unfold GA
  by_cases q : A (pc x) c = true ∧ x.testBit c = false
  · rw [if_pos q, if_pos q]
    unfold FA
    rw [pc_or (by omega) q.2, if_pos (by omega), show R - (pc x + 1) = d by omega]
    congr 1
    funext k
    exact (or_bit k).symm
  · rw [if_neg q, if_neg q]
theorem FA_eq {A : Nat → Nat → Bool} {C R x : Nat} (h : pc x = R) : FA A C R x = 1 := by
  unfold FA
  rw [if_pos (by omega), show R - pc x = 0 by omega]
  show (if pc x = R then 1 else 0) = 1
  rw [if_pos h]
theorem FA_gt {A : Nat → Nat → Bool} {C R x : Nat} (h : R < pc x) : FA A C R x = 0 := by
  unfold FA
  rw [if_neg (by omega)]
theorem pc_0 : pc 0 = 0 := by decide
theorem FA_0 {A : Nat → Nat → Bool} {C R : Nat} : FA A C R 0 = Tk A C R R 0 (fun _ => false) 0 := by
  unfold FA
  rw [pc_0, if_pos (Nat.zero_le _), Nat.sub_zero]
  congr 1
  funext k
  exact Nat.zero_testBit k
/-- the tally at t: its rows, and how large the row of ways is -/
def TL (h : PH) (t b g B : Nat) : Prop := hK h t = 14 ∧ hR h t 0 = g ∧ hR h t 1 = b ∧ hR h t 2 = t + 1 ∧ hR h t 3 = t + 2 ∧ (hK h (t + 1) = 3 ∧ hL h (t + 1) = 16) ∧ (hK h (t + 2) = 2 ∧ hL h (t + 2) = 16) ∧ 0 < b ∧ b + 5 ≤ t ∧ 0 < g ∧ g + 5 ≤ b ∧ t + 4 ≤ B ∧ B ≤ hN h
def TW (h : PH) (t B L : Nat) : Prop := ∃ w, hR h t 4 = w ∧ hK h w = 3 ∧ hL h w = L ∧ (w = t + 3 ∨ B ≤ w) ∧ w < hN h ∧ ∃ e, e ≤ 16 ∧ L = 2 ^ e
variable {G : GG} {h : PH} {t b g B L : Nat}
theorem TL.so {h' : PH} {lo hi : Nat} (ht : TL h t b g B) (ho : SO lo hi h h') : TL h' t b g B := by
  obtain ⟨a1, a2, a3, a4, -⟩ := ho
  unfold TL at *
  rw [a1, a2, a3, a4]
  exact ht
theorem TW.so {h' : PH} {lo hi : Nat} (ht : TW h t B L) (ho : SO lo hi h h') : TW h' t B L := by
  obtain ⟨a1, a2, a3, a4, -⟩ := ho
  unfold TW at *
  rw [a1, a2, a3, a4]
  exact ht
theorem wc_inner {nc ns : Nat} {Z : Option Value → PH → Prop} {w C R x : Nat} {acc : Int64} {A : Nat → Nat → Bool} {e1 e2 : Int32} {vx : Int32} (hC : C ≤ 16) (hx : x < 2 ^ C) (k0 : hK h t = 14) (r4 : hR h t 4 = w) (kw : hK h w = 3) (lw : 2 ^ C ≤ hL h w) (w0 : w ≠ 0) (hL2 : hL h w ≤ 65536) (hA : ∀ c, c < C → A (pc x) c = (t3 vx).testBit c)
    (K : ∀ h1, SO w (w + 1) h h1 → acc + Phi (2 ^ C) (x + 1) (hJ h1 w) (FA A C R) = acc + Phi (2 ^ C) (x + 1) (hJ h w) (FA A C R) + hJ h w x * c64 (sm C (GA A C R x)) → RR G nc ns m_X4_waysToChoose 61 [some (.ref t), some (.int e1), some (.int e2), some (.int (nI (2 ^ C))), some (.long acc), none, some (.int (nI x + 1)), none, none, none] [] h1 Z) : ∀ d c h1, c + d = C → SO w (w + 1) h h1 → hJ h1 w x = hJ h w x → acc + Phi (2 ^ C) (x + 1) (hJ h1 w) (FA A C R) = acc + Phi (2 ^ C) (x + 1) (hJ h w) (FA A C R) + hJ h w x * c64 (sm c (GA A C R x)) →
    RR G nc ns m_X4_waysToChoose 133 [some (.ref t), some (.int e1), some (.int e2), some (.int (nI (2 ^ C))), some (.long acc), none, some (.int (nI x)), some (.int (nI (pc x))), some (.int (vx &&& (nI x ^^^ (-1)))), some (.int (nI (2 ^ c)))] [] h1 Z := by
  have hp := pow_lt31 hC
  intro d
  induction d with
  | zero =>
    intro c h1 e so ex ei
    have e : c = C := by omega
    subst e
    obtain ⟨o1, o2, o3, o4, o5, o6⟩ := id so
    have no : ¬ nI (2 ^ c) ≤ nI (2 ^ c) → False := fun z => z (nI_le (Nat.le_refl _) (by omega))
    exact s_X4_waysToChoose_133 (fun _ => K h1 so ei) (fun z => (no z).elim) (by rw [o1]; exact k0) (by rw [o3, r4]; exact w0) (by rw [o1, o3, r4]; exact kw) (fun z => (no z).elim) (fun z => (no z).elim) (fun z => (no z).elim)
  | succ d ih =>
    intro c h1 e so ex ei
    have hc : c < C := by omega
    have hpc := pow_lt31 (c := c) (by omega)
    have hlt : 2 ^ c < 2 ^ C := Nat.pow_lt_pow_right (by decide) hc
    obtain ⟨o1, o2, o3, o4, o5, o6⟩ := id so
    have fb : ((vx &&& (nI x ^^^ (-1))) &&& nI (2 ^ c)) = 0 ↔ ¬ (A (pc x) c = true ∧ x.testBit c = false) := by
      rw [hA c hc, nI_t3 vx, t3_nI (t3_lt vx)]
      exact free_bit (by omega) (by omega) (t3_lt vx)
    have hsm : sm (c + 1) (GA A C R x) = sm c (GA A C R x) + GA A C R x c := rfl
    have eor : nI x ||| nI (2 ^ c) = nI (x ||| 2 ^ c) := nI_or (by omega) (by omega)
    have hor : x ||| 2 ^ c < 2 ^ C := or_lt hx hc
    have cor : Int32.toNatClampNeg (nI (x ||| 2 ^ c)) = x ||| 2 ^ c := nI_clamp (by omega)
    have cx : Int32.toNatClampNeg (nI x) = x := nI_clamp (by omega)
    refine s_X4_waysToChoose_133 (fun z => absurd z (nI_ge hlt (by omega))) (fun _ z => ?_) (by rw [o1]; exact k0) (by rw [o3, r4]; exact w0) (by rw [o1, o3, r4]; exact kw) (fun _ _ => ?_) (fun _ _ => ?_) (fun _ z => ?_)
    · rw [shl_d c (by omega)]
      refine ih (c + 1) h1 (by omega) so ex ?_
      have eg : GA A C R x c = 0 := by unfold GA; rw [if_neg (fb.1 z)]
      have es : sm (c + 1) (GA A C R x) = sm c (GA A C R x) := by rw [hsm, eg]; rfl
      rw [ei, es]
    · rw [o2, o3, r4, eor]; exact vp_in_nI (by omega) (by omega)
    · rw [o2, o3, r4]; exact vp_in_nI (by omega) (by omega)
    · rw [shl_d c (by omega), o3, r4, eor, cor, cx]
      have q : A (pc x) c = true ∧ x.testBit c = false := Classical.byContradiction (fun n => z (fb.2 n))
      have hgt := or_gt q.2
      have so2 : SO w (w + 1) h (sJ h1 w (x ||| 2 ^ c) (hJ h1 w (x ||| 2 ^ c) + hJ h1 w x)) := so.trans (SO.sJ (Nat.le_refl _) (by omega))
      have v1 : ∀ i, i ≠ x ||| 2 ^ c → hJ (sJ h1 w (x ||| 2 ^ c) (hJ h1 w (x ||| 2 ^ c) + hJ h1 w x)) w i = hJ h1 w i := fun i hi => by
        rw [hJ_sJ, if_neg (fun z => hi z.2)]
      have v2 : hJ (sJ h1 w (x ||| 2 ^ c) (hJ h1 w (x ||| 2 ^ c) + hJ h1 w x)) w (x ||| 2 ^ c) = hJ h1 w (x ||| 2 ^ c) + hJ h1 w x := by
        rw [hJ_sJ, if_pos ⟨rfl, rfl⟩]
      refine ih (c + 1) _ (by omega) so2 ?_ ?_
      · rw [v1 x (by omega)]; exact ex
      · rw [Phi_upd hor (by omega) v1 v2, hsm]
        have eg : GA A C R x c = FA A C R (x ||| 2 ^ c) := by unfold GA; rw [if_pos q]
        rw [eg, c64_add, ex]
        grind
theorem wc_outer {nc ns : Nat} {Z : Option Value → PH → Prop} {w C R : Nat} {A : Nat → Nat → Bool} {e2 : Int32} (hC : C ≤ 16) (hRC : R ≤ 16) (k0 : hK h t = 14) (r3 : hR h t 3 = t + 2) (kc : hK h (t + 2) = 2 ∧ hL h (t + 2) = 16) (r4 : hR h t 4 = w) (kw : hK h w = 3) (lw : 2 ^ C ≤ hL h w) (w0 : w ≠ 0) (hL2 : hL h w ≤ 65536) (wt : w ≠ t + 2) (hA : ∀ i, i < R → ∀ c, c < C → A i c = (t3 (hI h (t + 2) i)).testBit c)
    (hz : ∀ h1, SO w (w + 1) h h1 → Z (some (.long (c64 (FA A C R 0)))) h1) : ∀ d x acc h1, x + d = 2 ^ C → SO w (w + 1) h h1 → acc + Phi (2 ^ C) x (hJ h1 w) (FA A C R) = c64 (FA A C R 0) →
    RR G nc ns m_X4_waysToChoose 61 [some (.ref t), some (.int (nI R)), some (.int e2), some (.int (nI (2 ^ C))), some (.long acc), none, some (.int (nI x)), none, none, none] [] h1 Z := by
  have hp := pow_lt31 hC
  intro d
  induction d with
  | zero =>
    intro x acc h1 e so ei
    have e : x = 2 ^ C := by omega
    subst e
    obtain ⟨o1, o2, o3, o4, o5, o6⟩ := id so
    have no : ¬ nI (2 ^ C) ≤ nI (2 ^ C) → False := fun z => z (nI_le (Nat.le_refl _) (by omega))
    refine s_X4_waysToChoose_61 (x1 := 0) (fun _ => ?_) (fun z => (no z).elim) (by rw [o1]; exact k0) (by rw [o3, r4]; exact w0) (by rw [o1, o3, r4]; exact kw) (fun z => (no z).elim) (fun z => (no z).elim) (by rw [o3, r3]; omega) (by rw [o1, o3, r3]; exact kc.1) (fun z => (no z).elim) (fun z => (no z).elim) (fun z => (no z).elim) (fun z => (no z).elim)
    rw [Phi_end] at ei
    have : acc = c64 (FA A C R 0) := by grind
    rw [this]; exact hz h1 so
  | succ d ih =>
    intro x acc h1 e so ei
    have hx : x < 2 ^ C := by omega
    obtain ⟨o1, o2, o3, o4, o5, o6⟩ := id so
    have cx : Int32.toNatClampNeg (nI x) = x := nI_clamp (by omega)
    have hpx : pc x ≤ 16 := cnt_le _ _
    have cp : Int32.toNatClampNeg (nI (pc x)) = pc x := nI_clamp (by omega)
    rw [Phi_step hx] at ei
    refine s_X4_waysToChoose_61 (x1 := nI (pc x)) (fun z => absurd z (nI_ge hx (by omega))) (fun _ => ev_pc (by omega)) (by rw [o1]; exact k0) (by rw [o3, r4]; exact w0) (by rw [o1, o3, r4]; exact kw) (fun _ => by rw [o2, o3, r4]; exact vp_in_nI (by omega) (by omega)) (fun _ z => ?_) (by rw [o3, r3]; omega) (by rw [o1, o3, r3]; exact kc.1) (fun _ _ z1 z2 => ?_) (fun _ _ z1 z2 => ?_) (fun _ _ z1 z2 => ?_) (fun _ _ z1 => ?_)
    · rw [o3, r4, cx, lg0] at z
      rw [nI_1]
      refine ih (x + 1) acc h1 (by omega) so ?_
      rw [z] at ei
      rw [← ei]; grind
    · have : pc x < R := by
        have a := (nI_leI (by omega) (by omega)).1 z1
        have bb : pc x ≠ R := fun q => z2 (by rw [q])
        omega
      rw [o2, o3, r3, kc.2]; exact vp_in_nI (by omega) (by decide)
    · have hlt : pc x < R := by
        have a := (nI_leI (by omega) (by omega)).1 z1
        have bb : pc x ≠ R := fun q => z2 (by rw [q])
        omega
      rw [o3, r3, cp]
      have hIe : hI h1 (t + 2) (pc x) = hI h (t + 2) (pc x) := (o6 (t + 2) (by omega)).1 _
      have e0 : (1 : Int32) = nI (2 ^ 0) := by decide
      rw [hIe, e0]
      refine wc_inner (h := h1) (vx := hI h (t + 2) (pc x)) (A := A) (R := R) hC hx (by rw [o1]; exact k0) (by rw [o3]; exact r4) (by rw [o1]; exact kw) (by rw [o2]; exact lw) w0 (by rw [o2]; exact hL2) (fun c hc => hA _ hlt c hc) (fun h2 so2 e2 => ?_) C 0 h1 (by omega) SO.rf rfl (by show _ = _ + _ * c64 0; rw [show c64 0 = 0 from rfl]; grind)
      rw [nI_1]
      refine ih (x + 1) acc h2 (by omega) (so.trans so2) ?_
      rw [FA_lt hC hlt] at ei
      rw [← ei, e2]; grind
    · rw [nI_1, o3, r4, cx]
      refine ih (x + 1) _ h1 (by omega) so ?_
      have : pc x = R := (nI_eq (by omega) (by omega)).1 z2
      rw [FA_eq this, show c64 1 = 1 from rfl] at ei
      rw [← ei]; grind
    · rw [nI_1]
      refine ih (x + 1) acc h1 (by omega) so ?_
      have : R < pc x := by
        have a : ¬ pc x ≤ R := fun q => z1 ((nI_leI (by omega) (by omega)).2 q)
        omega
      rw [FA_gt this, show c64 0 = 0 from rfl] at ei
      rw [← ei]; grind
theorem wc_zero {nc ns : Nat} {Z : Option Value → PH → Prop} {w C : Nat} {e1 e2 : Int32} (hC : C ≤ 16) (k0 : hK h t = 14) (r4 : hR h t 4 = w) (kw : hK h w = 3) (lw : 2 ^ C ≤ hL h w) (w0 : w ≠ 0) (hL2 : hL h w ≤ 65536)
    (K : ∀ h1, SO w (w + 1) h h1 → hJ h1 w 0 = 1 → (∀ i, i < 2 ^ C → i ≠ 0 → hJ h1 w i = 0) → RR G nc ns m_X4_waysToChoose 61 [some (.ref t), some (.int e1), some (.int e2), some (.int (nI (2 ^ C))), some (.long 0), none, some (.int 0), none, none, none] [] h1 Z) : ∀ d x h1, x + d = 2 ^ C → SO w (w + 1) h h1 → (∀ i, i < x → i ≠ 0 → hJ h1 w i = 0) →
    RR G nc ns m_X4_waysToChoose 28 [some (.ref t), some (.int e1), some (.int e2), some (.int (nI (2 ^ C))), some (.int (nI x)), none, none, none, none, none] [] h1 Z := by
  have hp := pow_lt31 hC
  have hp0 : 0 < 2 ^ C := Nat.two_pow_pos C
  intro d
  induction d with
  | zero =>
    intro x h1 e so ez
    have e : x = 2 ^ C := by omega
    subst e
    obtain ⟨o1, o2, o3, o4, o5, o6⟩ := id so
    have no : ¬ nI (2 ^ C) ≤ nI (2 ^ C) → False := fun z => z (nI_le (Nat.le_refl _) (by omega))
    refine s_X4_waysToChoose_28 (by rw [o1]; exact k0) (by rw [o3, r4]; exact w0) (by rw [o1, o3, r4]; exact kw) (fun _ => ?_) (fun _ => ?_) (fun z => (no z).elim) (fun z => (no z).elim)
    · rw [o2, o3, r4, ← nI_0]; exact vp_in_nI (by omega) (by omega)
    · rw [o3, r4]
      refine K _ (so.trans (SO.sJ (Nat.le_refl _) (by omega))) ?_ (fun i hi hn => ?_)
      · rw [hJ_sJ, if_pos ⟨rfl, rfl⟩]
      · rw [hJ_sJ, if_neg (fun z => hn z.2)]; exact ez i hi hn
  | succ d ih =>
    intro x h1 e so ez
    have hx : x < 2 ^ C := by omega
    obtain ⟨o1, o2, o3, o4, o5, o6⟩ := id so
    have cx : Int32.toNatClampNeg (nI x) = x := nI_clamp (by omega)
    refine s_X4_waysToChoose_28 (by rw [o1]; exact k0) (by rw [o3, r4]; exact w0) (by rw [o1, o3, r4]; exact kw) (fun z => absurd z (nI_ge hx (by omega))) (fun z => absurd z (nI_ge hx (by omega))) (fun _ => ?_) (fun _ => ?_)
    · rw [o2, o3, r4]; exact vp_in_nI (by omega) (by omega)
    · rw [o3, r4, cx, nI_1]
      refine ih (x + 1) _ (by omega) (so.trans (SO.sJ (Nat.le_refl _) (by omega))) (fun i hi hn => ?_)
      rw [hJ_sJ]
      by_cases q : i = x
      · rw [if_pos ⟨rfl, q⟩]
      · rw [if_neg (fun z => q z.2)]; exact ez i (by omega) hn
set_option maxRecDepth 20000 in
set_option maxHeartbeats 2000000 in
theorem s_X4_wtc0 {G : GG} {nc ns : Nat} {h : PH} {Z : Option Value → PH → Prop} {l0 : Nat} {l1 : Int32} {l2 : Int32} {n1 : Nat}
    (c1 : hK h l0 = 14)
    (c2 : (hR h l0 4) ≠ 0)
    (c3 : ((ak (hK h (hR h l0 4))).isSome = true ∨ hK h (hR h l0 4) = 1))
    (k4 : ((1 <<< ((if 16 < l2 then 16 else l2) &&& 31)) ≤ (nI (hL h (hR h l0 4)))) → RR G nc ns m_X4_waysToChoose 28 [some (.ref l0), some (.int l1), some (.int l2), some (.int (1 <<< ((if 16 < l2 then 16 else l2) &&& 31))), some (.int 1), none, none, none, none, none] [] h Z)
    (c5 : (¬ (1 <<< ((if 16 < l2 then 16 else l2) &&& 31)) ≤ (nI (hL h (hR h l0 4)))) → ¬ (1 <<< ((if 16 < l2 then 16 else l2) &&& 31)) < 0)
    (c6 : (¬ (1 <<< ((if 16 < l2 then 16 else l2) &&& 31)) ≤ (nI (hL h (hR h l0 4)))) → Int32.toNatClampNeg (1 <<< ((if 16 < l2 then 16 else l2) &&& 31)) = n1)
    (c7 : (¬ (1 <<< ((if 16 < l2 then 16 else l2) &&& 31)) ≤ (nI (hL h (hR h l0 4)))) → n1 * 8 ≤ 536870912)
    (c8 : (¬ (1 <<< ((if 16 < l2 then 16 else l2) &&& 31)) ≤ (nI (hL h (hR h l0 4)))) → (hN h) + 1 ≤ nc)
    (c9 : (¬ (1 <<< ((if 16 < l2 then 16 else l2) &&& 31)) ≤ (nI (hL h (hR h l0 4)))) → (hS h) + n1 ≤ ns)
    (c10 : (¬ (1 <<< ((if 16 < l2 then 16 else l2) &&& 31)) ≤ (nI (hL h (hR h l0 4)))) → hK (nA h 3 n1) l0 = 14)
    (c11 : (hN h) ≠ 0)
    (k12 : (¬ (1 <<< ((if 16 < l2 then 16 else l2) &&& 31)) ≤ (nI (hL h (hR h l0 4)))) → RR G nc ns m_X4_waysToChoose 28 [some (.ref l0), some (.int l1), some (.int l2), some (.int (1 <<< ((if 16 < l2 then 16 else l2) &&& 31))), some (.int 1), none, none, none, none, none] [] (sR (nA h 3 n1) l0 4 (hN h)) Z) :
    RR G nc ns m_X4_waysToChoose 0 [some (.ref l0), some (.int l1), some (.int l2), none, none, none, none, none, none, none] [] h Z := by
  refine r_iconst (v := 1) dX4_waysToChoose_0 (by decide) ?_
  refine r_iload_n dX4_waysToChoose_1 rfl ?_
  refine r_bipush (v := 16) dX4_waysToChoose_2 (by decide) ?_
  refine r_mmin dX4_waysToChoose_4 lk_RX4_73 (by decide) (by decide) (Nat.le_of_ble_eq_true rfl) ?_
  refine r_ishl dX4_waysToChoose_7 ?_
  refine r_istore_nL [some (.ref l0), some (.int l1), some (.int l2), some (.int (1 <<< ((if 16 < l2 then 16 else l2) &&& 31))), none, none, none, none, none, none] dX4_waysToChoose_8 (by decide) rfl ?_
  refine r_aload_n dX4_waysToChoose_9 rfl ?_
  refine r_getR (c := 4) (k := 4) dX4_waysToChoose_10 rfl rfl (by decide) fl_RX4_27 (c1) rfl (c2) ?_
  refine r_alen dX4_waysToChoose_13 (c3) ?_
  refine r_iload_n dX4_waysToChoose_14 rfl ?_
  refine r_icmp_ge 25 dX4_waysToChoose_15 (by decide) (fun q1 => ?_) (fun q1 => ?_)
  · refine r_iconst (v := 1) dX4_waysToChoose_25 (by decide) ?_
    refine r_istoreL [some (.ref l0), some (.int l1), some (.int l2), some (.int (1 <<< ((if 16 < l2 then 16 else l2) &&& 31))), some (.int 1), none, none, none, none, none] dX4_waysToChoose_26 (by decide) rfl ?_
    exact k4 q1
  · refine r_aload_n dX4_waysToChoose_18 rfl ?_
    refine r_iload_n dX4_waysToChoose_19 rfl ?_
    refine r_newarray (kd := 3) (N := n1) dX4_waysToChoose_20 rfl rfl rfl ac_long (c5 q1) (c6 q1) (nb_long (c7 q1)) (c8 q1) (c9 q1) ?_
    refine r_putR (c := 4) (k := 4) dX4_waysToChoose_22 rfl rfl (by decide) fl_RX4_27 (c10 q1) (Or.inl rfl) rfl (c11) ?_
    refine r_iconst (v := 1) dX4_waysToChoose_25 (by decide) ?_
    refine r_istoreL [some (.ref l0), some (.int l1), some (.int l2), some (.int (1 <<< ((if 16 < l2 then 16 else l2) &&& 31))), some (.int 1), none, none, none, none, none] dX4_waysToChoose_26 (by decide) rfl ?_
    exact k12 q1
/-- what the tally's calls leave as it was, below B -/
def TO (t B : Nat) (h h' : PH) : Prop := hN h ≤ hN h' ∧ (∀ a, a < B → hK h' a = hK h a ∧ hL h' a = hL h a) ∧ (∀ a, a < B → ∀ j, ¬ (a = t ∧ j = 4) → hR h' a j = hR h a j) ∧ ∀ a, a < B → ¬ (t ≤ a ∧ a < t + 4) → (∀ j, hI h' a j = hI h a j) ∧ ∀ j, hJ h' a j = hJ h a j
theorem TO.rf : TO t B h h := ⟨Nat.le_refl _, fun _ _ => ⟨rfl, rfl⟩, fun _ _ _ _ => rfl, fun _ _ _ => ⟨fun _ => rfl, fun _ => rfl⟩⟩
theorem TO.trans {h1 h2 : PH} (a : TO t B h h1) (c : TO t B h1 h2) : TO t B h h2 := by
  obtain ⟨a1, a2, a3, a4⟩ := a
  obtain ⟨c1, c2, c3, c4⟩ := c
  exact ⟨Nat.le_trans a1 c1, fun x hx => ⟨(c2 x hx).1.trans (a2 x hx).1, (c2 x hx).2.trans (a2 x hx).2⟩, fun x hx j hj => (c3 x hx j hj).trans (a3 x hx j hj), fun x hx hn => ⟨fun j => ((c4 x hx hn).1 j).trans ((a4 x hx hn).1 j), fun j => ((c4 x hx hn).2 j).trans ((a4 x hx hn).2 j)⟩⟩
theorem SO.to {h' : PH} {lo hi : Nat} (so : SO lo hi h h') (hd : (t ≤ lo ∧ hi ≤ t + 4) ∨ B ≤ lo) : TO t B h h' := by
  obtain ⟨o1, o2, o3, o4, o5, o6⟩ := so
  refine ⟨by omega, fun a _ => ⟨by rw [o1], by rw [o2]⟩, fun a _ j _ => by rw [o3], fun a ha hn => o6 a (by omega)⟩
theorem TL.to {h' : PH} (ht : TL h t b g B) (to : TO t B h h') : TL h' t b g B := by
  obtain ⟨a1, a2, a3, a4, a5, a6, a7, a8, a9, a10, a11, a12, a13⟩ := ht
  obtain ⟨t1, t2, t3, t4⟩ := to
  refine ⟨by rw [(t2 t (by omega)).1]; exact a1, by rw [t3 t (by omega) 0 (by omega)]; exact a2, by rw [t3 t (by omega) 1 (by omega)]; exact a3, by rw [t3 t (by omega) 2 (by omega)]; exact a4, by rw [t3 t (by omega) 3 (by omega)]; exact a5, ?_, ?_, a8, a9, a10, a11, a12, by omega⟩
  · rw [(t2 (t + 1) (by omega)).1, (t2 (t + 1) (by omega)).2]; exact a6
  · rw [(t2 (t + 2) (by omega)).1, (t2 (t + 2) (by omega)).2]; exact a7
/-- what waysToChoose leaves of the tally itself -/
def TK (t : Nat) (h h' : PH) : Prop := (∀ j, hI h' t j = hI h t j) ∧ (∀ j, hJ h' t j = hJ h t j) ∧ (∀ j, hJ h' (t + 1) j = hJ h (t + 1) j) ∧ ∀ j, hI h' (t + 2) j = hI h (t + 2) j
def mcW (L C : Nat) : Nat := if L < 2 ^ C then 1 else 0
def msW (L C : Nat) : Nat := if L < 2 ^ C then 2 ^ C else 0
def lW (L C : Nat) : Nat := if L < 2 ^ C then 2 ^ C else L
theorem lW_pow {L C : Nat} (hC : C ≤ 16) (h : ∃ e, e ≤ 16 ∧ L = 2 ^ e) : ∃ e, e ≤ 16 ∧ lW L C = 2 ^ e := by
  unfold lW
  by_cases q : L < 2 ^ C
  · rw [if_pos q]; exact ⟨C, hC, rfl⟩
  · rw [if_neg q]; exact h
theorem min16 {C : Nat} (hC : C ≤ 16) : (if 16 < nI C then 16 else nI C) = nI C := if_neg (fun z => absurd ((nI_ltI (a := 16) (by decide) (by omega)).1 z) (by omega))
theorem ev_waysToChoose {C R : Nat} (hT : TL h t b g B) (hW : TW h t B L) (hC : C ≤ 16) (hRC : R ≤ 16) :
    Ev G m_X4_waysToChoose [.ref t, .int (nI R), .int (nI C)] h (mcW L C) (msW L C) (RJ (fun x h' => TO t B h h' ∧ TK t h h' ∧ TW h' t B (lW L C) ∧ x = c64 (Tk (fun i c => (t3 (hI h (t + 2) i)).testBit c) C R R 0 (fun _ => false) 0))) := by
  have hp := pow_lt31 hC
  have hp0 : 0 < 2 ^ C := Nat.two_pow_pos C
  obtain ⟨w, w1, w2, w3, w4, w5, e0, w6, w7⟩ := id hW
  have w8 : L ≤ 65536 := by rw [w7]; exact pow_lt31 w6
  obtain ⟨a1, a2, a3, a4, a5, a6, a7, a8, a9, a10, a11, a12, a13⟩ := id hT
  have main : ∀ (h0 : PH) (v : Nat), hK h0 t = 14 → hR h0 t 3 = t + 2 → (hK h0 (t + 2) = 2 ∧ hL h0 (t + 2) = 16) → hR h0 t 4 = v → hK h0 v = 3 → 2 ^ C ≤ hL h0 v → hL h0 v ≤ 65536 → hL h0 v = lW L C → (v = t + 3 ∨ B ≤ v) → v < hN h0 → TO t B h h0 → TK t h h0 → hN h0 = hN h + mcW L C → hS h0 = hS h + msW L C →
      RR G (hN h + mcW L C) (hS h + msW L C) m_X4_waysToChoose 28 [some (.ref t), some (.int (nI R)), some (.int (nI C)), some (.int (nI (2 ^ C))), some (.int (nI 1)), none, none, none, none, none] [] h0 (fun v h' => RJ (fun x h' => TO t B h h' ∧ TK t h h' ∧ TW h' t B (lW L C) ∧ x = c64 (Tk (fun i c => (t3 (hI h (t + 2) i)).testBit c) C R R 0 (fun _ => false) 0)) v h' ∧ hN h' = hN h + mcW L C ∧ hS h' = hS h + msW L C) := by
    intro h0 v k0 r3 kc r4 kv lv lv2 lv3 vt vn to tk en es
    refine wc_zero hC k0 r4 kv lv (by omega) lv2 (fun h1 so z0 z1 => ?_) (2 ^ C - 1) 1 h0 (by omega) SO.rf (fun i hi hn => by omega)
    obtain ⟨o1, o2, o3, o4, o5, o6⟩ := id so
    rw [← nI_0]
    refine wc_outer (h := h1) (w := v) (A := fun i c => (t3 (hI h (t + 2) i)).testBit c) hC hRC (by rw [o1]; exact k0) (by rw [o3]; exact r3) (by rw [o1, o2]; exact kc) (by rw [o3]; exact r4) (by rw [o1]; exact kv) (by rw [o2]; exact lv) (by omega) (by rw [o2]; exact lv2) (by omega) (fun i _ c _ => ?_) (fun h2 so2 => ?_) (2 ^ C) 0 0 h1 (by omega) SO.rf (by rw [Phi_start hp0 z0 z1]; grind)
    · rw [(o6 (t + 2) (by omega)).1, tk.2.2.2]
    · have so3 := so.trans so2
      obtain ⟨q1, q2, q3, q4, q5, q6⟩ := id so3
      refine ⟨⟨_, rfl, to.trans (so3.to (by omega)), ⟨fun j => ?_, fun j => ?_, fun j => ?_, fun j => ?_⟩, ⟨v, by rw [q3]; exact r4, by rw [q1]; exact kv, by rw [q2]; exact lv3, vt, by rw [q4]; exact vn, lW_pow hC ⟨e0, w6, w7⟩⟩, by rw [FA_0]⟩, by rw [q4]; exact en, by rw [q5]; exact es⟩
      · rw [(q6 t (by omega)).1]; exact tk.1 j
      · rw [(q6 t (by omega)).2]; exact tk.2.1 j
      · rw [(q6 (t + 1) (by omega)).2]; exact tk.2.2.1 j
      · rw [(q6 (t + 2) (by omega)).1]; exact tk.2.2.2 j
  refine Ev.of pn_X4_waysToChoose (Nat.le_of_ble_eq_true rfl) ?_
  have e1 : (1 : Int32) = nI 1 := by decide
  have ep : (1 <<< ((if 16 < nI C then 16 else nI C) &&& 31) : Int32) = nI (2 ^ C) := by rw [min16 hC]; exact shl_1 C (by omega)
  by_cases hl : L < 2 ^ C
  · have em : mcW L C = 1 := if_pos hl
    have es : msW L C = 2 ^ C := if_pos hl
    have el : lW L C = 2 ^ C := if_pos hl
    refine s_X4_wtc0 (n1 := 2 ^ C) a1 (by rw [w1]; omega) (by rw [w1, w2]; exact Or.inl rfl) (fun z => ?_) (fun _ => ?_) (fun _ => ?_) (fun _ => by omega) (fun _ => by rw [em]; omega) (fun _ => by rw [es]; omega) (fun _ => ?_) (by omega) (fun _ => ?_)
    · rw [ep, w1, w3] at z
      have := (nI_leI (by omega) (by omega)).1 z
      omega
    · rw [ep]; exact nI_pos (by omega)
    · rw [ep]; exact nI_clamp (by omega)
    · show (if t = hN h then 3 else hK h t) = 14
      rw [if_neg (by omega)]; exact a1
    · rw [ep, e1]
      have nk : ∀ x, x < hN h → hK (nA h 3 (2 ^ C)) x = hK h x ∧ hL (nA h 3 (2 ^ C)) x = hL h x ∧ (∀ j, hI (nA h 3 (2 ^ C)) x j = hI h x j) ∧ (∀ j, hJ (nA h 3 (2 ^ C)) x j = hJ h x j) ∧ ∀ j, hR (nA h 3 (2 ^ C)) x j = hR h x j := by
        intro x hx
        refine ⟨if_neg (by omega), if_neg (by omega), fun j => ?_, fun j => ?_, fun j => ?_⟩
        · show u1 (hI h) (hN h) (fun _ => 0) x j = _
          unfold u1; rw [if_neg (by omega)]
        · show u1 (hJ h) (hN h) (fun _ => 0) x j = _
          unfold u1; rw [if_neg (by omega)]
        · show u1 (hR h) (hN h) (fun _ => 0) x j = _
          unfold u1; rw [if_neg (by omega)]
      have rr : ∀ x j, hR (sR (nA h 3 (2 ^ C)) t 4 (hN h)) x j = if x = t ∧ j = 4 then hN h else hR (nA h 3 (2 ^ C)) x j := fun _ _ => rfl
      have kN : hK (nA h 3 (2 ^ C)) (hN h) = 3 := if_pos rfl
      have lN : hL (nA h 3 (2 ^ C)) (hN h) = 2 ^ C := if_pos rfl
      refine main (sR (nA h 3 (2 ^ C)) t 4 (hN h)) (hN h) ?_ ?_ ?_ ?_ kN ?_ ?_ ?_ (Or.inr a13) ?_ ⟨?_, fun x hx => ?_, fun x hx j hj => ?_, fun x hx _ => ?_⟩ ⟨fun j => ?_, fun j => ?_, fun j => ?_, fun j => ?_⟩ ?_ ?_
      · exact (nk t (by omega)).1.trans a1
      · rw [rr, if_neg (by omega), (nk t (by omega)).2.2.2.2]; exact a5
      · exact ⟨(nk (t + 2) (by omega)).1.trans a7.1, (nk (t + 2) (by omega)).2.1.trans a7.2⟩
      · rw [rr, if_pos ⟨rfl, rfl⟩]
      · exact Nat.le_of_eq lN.symm
      · exact Nat.le_trans (Nat.le_of_eq lN) hp
      · exact lN.trans el.symm
      · show hN h < hN h + 1; omega
      · show hN h ≤ hN h + 1; omega
      · exact ⟨(nk x (by omega)).1, (nk x (by omega)).2.1⟩
      · rw [rr, if_neg hj]; exact (nk x (by omega)).2.2.2.2 j
      · exact ⟨(nk x (by omega)).2.2.1, (nk x (by omega)).2.2.2.1⟩
      · exact (nk t (by omega)).2.2.1 j
      · exact (nk t (by omega)).2.2.2.1 j
      · exact (nk (t + 1) (by omega)).2.2.2.1 j
      · exact (nk (t + 2) (by omega)).2.2.1 j
      · rw [em]; rfl
      · rw [es]; rfl
  · have em : mcW L C = 0 := if_neg hl
    have es : msW L C = 0 := if_neg hl
    have el : lW L C = L := if_neg hl
    have no : ¬ ((1 <<< ((if 16 < nI C then 16 else nI C) &&& 31)) ≤ (nI (hL h (hR h t 4)))) → False := fun z => z (by rw [ep, w1, w3]; exact nI_le (by omega) (by omega))
    refine s_X4_wtc0 (n1 := 0) a1 (by rw [w1]; omega) (by rw [w1, w2]; exact Or.inl rfl) (fun _ => ?_) (fun z => (no z).elim) (fun z => (no z).elim) (fun z => (no z).elim) (fun z => (no z).elim) (fun z => (no z).elim) (fun z => (no z).elim) (by omega) (fun z => (no z).elim)
    rw [ep, e1]
    exact main h w a1 a5 a7 w1 w2 (by omega) (by omega) (w3.trans el.symm) w4 w5 TO.rf ⟨fun _ => rfl, fun _ => rfl, fun _ => rfl, fun _ => rfl⟩ (by rw [em]; rfl) (by rw [es]; rfl)
