section MISC
theorem sw_out {x a b : Int32} {lo hi : Int} (h1 : a.toInt = lo) (h2 : b.toInt = hi) (h : x < a ∨ b < x) : x.toInt < lo ∨ hi < x.toInt := by rw [← h1, ← h2]; exact h.imp Int32.lt_iff_toInt_lt.mp Int32.lt_iff_toInt_lt.mp
theorem sw_in_0_11 {x : Int32} (h : ¬ (x < 0 ∨ 11 < x)) : x = 0 ∨ x = 1 ∨ x = 2 ∨ x = 3 ∨ x = 4 ∨ x = 5 ∨ x = 6 ∨ x = 7 ∨ x = 8 ∨ x = 9 ∨ x = 10 ∨ x = 11 := by
  have e1 : ¬ x.toInt < 0 := fun q => h (Or.inl (Int32.lt_iff_toInt_lt.mpr q))
  have e2 : ¬ 11 < x.toInt := fun q => h (Or.inr (Int32.lt_iff_toInt_lt.mpr q))
  have e3 : x.toInt = 0 ∨ x.toInt = 1 ∨ x.toInt = 2 ∨ x.toInt = 3 ∨ x.toInt = 4 ∨ x.toInt = 5 ∨ x.toInt = 6 ∨ x.toInt = 7 ∨ x.toInt = 8 ∨ x.toInt = 9 ∨ x.toInt = 10 ∨ x.toInt = 11 := by omega
  rcases e3 with e | e | e | e | e | e | e | e | e | e | e | e
  · exact Or.inl (Int32.toInt_inj.mp e)
  · exact Or.inr (Or.inl (Int32.toInt_inj.mp e))
  · exact Or.inr (Or.inr (Or.inl (Int32.toInt_inj.mp e)))
  · exact Or.inr (Or.inr (Or.inr (Or.inl (Int32.toInt_inj.mp e))))
  · exact Or.inr (Or.inr (Or.inr (Or.inr (Or.inl (Int32.toInt_inj.mp e)))))
  · exact Or.inr (Or.inr (Or.inr (Or.inr (Or.inr (Or.inl (Int32.toInt_inj.mp e))))))
  · exact Or.inr (Or.inr (Or.inr (Or.inr (Or.inr (Or.inr (Or.inl (Int32.toInt_inj.mp e)))))))
  · exact Or.inr (Or.inr (Or.inr (Or.inr (Or.inr (Or.inr (Or.inr (Or.inl (Int32.toInt_inj.mp e))))))))
  · exact Or.inr (Or.inr (Or.inr (Or.inr (Or.inr (Or.inr (Or.inr (Or.inr (Or.inl (Int32.toInt_inj.mp e)))))))))
  · exact Or.inr (Or.inr (Or.inr (Or.inr (Or.inr (Or.inr (Or.inr (Or.inr (Or.inr (Or.inl (Int32.toInt_inj.mp e))))))))))
  · exact Or.inr (Or.inr (Or.inr (Or.inr (Or.inr (Or.inr (Or.inr (Or.inr (Or.inr (Or.inr (Or.inl (Int32.toInt_inj.mp e)))))))))))
  · exact Or.inr (Or.inr (Or.inr (Or.inr (Or.inr (Or.inr (Or.inr (Or.inr (Or.inr (Or.inr (Or.inr ((Int32.toInt_inj.mp e))))))))))))
theorem sw_in_3_8 {x : Int32} (h : ¬ (x < 3 ∨ 8 < x)) : x = 3 ∨ x = 4 ∨ x = 5 ∨ x = 6 ∨ x = 7 ∨ x = 8 := by
  have e1 : ¬ x.toInt < 3 := fun q => h (Or.inl (Int32.lt_iff_toInt_lt.mpr q))
  have e2 : ¬ 8 < x.toInt := fun q => h (Or.inr (Int32.lt_iff_toInt_lt.mpr q))
  have e3 : x.toInt = 3 ∨ x.toInt = 4 ∨ x.toInt = 5 ∨ x.toInt = 6 ∨ x.toInt = 7 ∨ x.toInt = 8 := by omega
  rcases e3 with e | e | e | e | e | e
  · exact Or.inl (Int32.toInt_inj.mp e)
  · exact Or.inr (Or.inl (Int32.toInt_inj.mp e))
  · exact Or.inr (Or.inr (Or.inl (Int32.toInt_inj.mp e)))
  · exact Or.inr (Or.inr (Or.inr (Or.inl (Int32.toInt_inj.mp e))))
  · exact Or.inr (Or.inr (Or.inr (Or.inr (Or.inl (Int32.toInt_inj.mp e)))))
  · exact Or.inr (Or.inr (Or.inr (Or.inr (Or.inr ((Int32.toInt_inj.mp e))))))
theorem sw_in_0_4 {x : Int32} (h : ¬ (x < 0 ∨ 4 < x)) : x = 0 ∨ x = 1 ∨ x = 2 ∨ x = 3 ∨ x = 4 := by
  have e1 : ¬ x.toInt < 0 := fun q => h (Or.inl (Int32.lt_iff_toInt_lt.mpr q))
  have e2 : ¬ 4 < x.toInt := fun q => h (Or.inr (Int32.lt_iff_toInt_lt.mpr q))
  have e3 : x.toInt = 0 ∨ x.toInt = 1 ∨ x.toInt = 2 ∨ x.toInt = 3 ∨ x.toInt = 4 := by omega
  rcases e3 with e | e | e | e | e
  · exact Or.inl (Int32.toInt_inj.mp e)
  · exact Or.inr (Or.inl (Int32.toInt_inj.mp e))
  · exact Or.inr (Or.inr (Or.inl (Int32.toInt_inj.mp e)))
  · exact Or.inr (Or.inr (Or.inr (Or.inl (Int32.toInt_inj.mp e))))
  · exact Or.inr (Or.inr (Or.inr (Or.inr ((Int32.toInt_inj.mp e)))))
theorem sw_in_0_10 {x : Int32} (h : ¬ (x < 0 ∨ 10 < x)) : x = 0 ∨ x = 1 ∨ x = 2 ∨ x = 3 ∨ x = 4 ∨ x = 5 ∨ x = 6 ∨ x = 7 ∨ x = 8 ∨ x = 9 ∨ x = 10 := by
  have e1 : ¬ x.toInt < 0 := fun q => h (Or.inl (Int32.lt_iff_toInt_lt.mpr q))
  have e2 : ¬ 10 < x.toInt := fun q => h (Or.inr (Int32.lt_iff_toInt_lt.mpr q))
  have e3 : x.toInt = 0 ∨ x.toInt = 1 ∨ x.toInt = 2 ∨ x.toInt = 3 ∨ x.toInt = 4 ∨ x.toInt = 5 ∨ x.toInt = 6 ∨ x.toInt = 7 ∨ x.toInt = 8 ∨ x.toInt = 9 ∨ x.toInt = 10 := by omega
  rcases e3 with e | e | e | e | e | e | e | e | e | e | e
  · exact Or.inl (Int32.toInt_inj.mp e)
  · exact Or.inr (Or.inl (Int32.toInt_inj.mp e))
  · exact Or.inr (Or.inr (Or.inl (Int32.toInt_inj.mp e)))
  · exact Or.inr (Or.inr (Or.inr (Or.inl (Int32.toInt_inj.mp e))))
  · exact Or.inr (Or.inr (Or.inr (Or.inr (Or.inl (Int32.toInt_inj.mp e)))))
  · exact Or.inr (Or.inr (Or.inr (Or.inr (Or.inr (Or.inl (Int32.toInt_inj.mp e))))))
  · exact Or.inr (Or.inr (Or.inr (Or.inr (Or.inr (Or.inr (Or.inl (Int32.toInt_inj.mp e)))))))
  · exact Or.inr (Or.inr (Or.inr (Or.inr (Or.inr (Or.inr (Or.inr (Or.inl (Int32.toInt_inj.mp e))))))))
  · exact Or.inr (Or.inr (Or.inr (Or.inr (Or.inr (Or.inr (Or.inr (Or.inr (Or.inl (Int32.toInt_inj.mp e)))))))))
  · exact Or.inr (Or.inr (Or.inr (Or.inr (Or.inr (Or.inr (Or.inr (Or.inr (Or.inr (Or.inl (Int32.toInt_inj.mp e))))))))))
  · exact Or.inr (Or.inr (Or.inr (Or.inr (Or.inr (Or.inr (Or.inr (Or.inr (Or.inr (Or.inr ((Int32.toInt_inj.mp e)))))))))))
theorem sw_in_0_3 {x : Int32} (h : ¬ (x < 0 ∨ 3 < x)) : x = 0 ∨ x = 1 ∨ x = 2 ∨ x = 3 := by
  have e1 : ¬ x.toInt < 0 := fun q => h (Or.inl (Int32.lt_iff_toInt_lt.mpr q))
  have e2 : ¬ 3 < x.toInt := fun q => h (Or.inr (Int32.lt_iff_toInt_lt.mpr q))
  have e3 : x.toInt = 0 ∨ x.toInt = 1 ∨ x.toInt = 2 ∨ x.toInt = 3 := by omega
  rcases e3 with e | e | e | e
  · exact Or.inl (Int32.toInt_inj.mp e)
  · exact Or.inr (Or.inl (Int32.toInt_inj.mp e))
  · exact Or.inr (Or.inr (Or.inl (Int32.toInt_inj.mp e)))
  · exact Or.inr (Or.inr (Or.inr ((Int32.toInt_inj.mp e))))
theorem sw_in_0_18 {x : Int32} (h : ¬ (x < 0 ∨ 18 < x)) : x = 0 ∨ x = 1 ∨ x = 2 ∨ x = 3 ∨ x = 4 ∨ x = 5 ∨ x = 6 ∨ x = 7 ∨ x = 8 ∨ x = 9 ∨ x = 10 ∨ x = 11 ∨ x = 12 ∨ x = 13 ∨ x = 14 ∨ x = 15 ∨ x = 16 ∨ x = 17 ∨ x = 18 := by
  have e1 : ¬ x.toInt < 0 := fun q => h (Or.inl (Int32.lt_iff_toInt_lt.mpr q))
  have e2 : ¬ 18 < x.toInt := fun q => h (Or.inr (Int32.lt_iff_toInt_lt.mpr q))
  have e3 : x.toInt = 0 ∨ x.toInt = 1 ∨ x.toInt = 2 ∨ x.toInt = 3 ∨ x.toInt = 4 ∨ x.toInt = 5 ∨ x.toInt = 6 ∨ x.toInt = 7 ∨ x.toInt = 8 ∨ x.toInt = 9 ∨ x.toInt = 10 ∨ x.toInt = 11 ∨ x.toInt = 12 ∨ x.toInt = 13 ∨ x.toInt = 14 ∨ x.toInt = 15 ∨ x.toInt = 16 ∨ x.toInt = 17 ∨ x.toInt = 18 := by omega
  rcases e3 with e | e | e | e | e | e | e | e | e | e | e | e | e | e | e | e | e | e | e
  · exact Or.inl (Int32.toInt_inj.mp e)
  · exact Or.inr (Or.inl (Int32.toInt_inj.mp e))
  · exact Or.inr (Or.inr (Or.inl (Int32.toInt_inj.mp e)))
  · exact Or.inr (Or.inr (Or.inr (Or.inl (Int32.toInt_inj.mp e))))
  · exact Or.inr (Or.inr (Or.inr (Or.inr (Or.inl (Int32.toInt_inj.mp e)))))
  · exact Or.inr (Or.inr (Or.inr (Or.inr (Or.inr (Or.inl (Int32.toInt_inj.mp e))))))
  · exact Or.inr (Or.inr (Or.inr (Or.inr (Or.inr (Or.inr (Or.inl (Int32.toInt_inj.mp e)))))))
  · exact Or.inr (Or.inr (Or.inr (Or.inr (Or.inr (Or.inr (Or.inr (Or.inl (Int32.toInt_inj.mp e))))))))
  · exact Or.inr (Or.inr (Or.inr (Or.inr (Or.inr (Or.inr (Or.inr (Or.inr (Or.inl (Int32.toInt_inj.mp e)))))))))
  · exact Or.inr (Or.inr (Or.inr (Or.inr (Or.inr (Or.inr (Or.inr (Or.inr (Or.inr (Or.inl (Int32.toInt_inj.mp e))))))))))
  · exact Or.inr (Or.inr (Or.inr (Or.inr (Or.inr (Or.inr (Or.inr (Or.inr (Or.inr (Or.inr (Or.inl (Int32.toInt_inj.mp e)))))))))))
  · exact Or.inr (Or.inr (Or.inr (Or.inr (Or.inr (Or.inr (Or.inr (Or.inr (Or.inr (Or.inr (Or.inr (Or.inl (Int32.toInt_inj.mp e))))))))))))
  · exact Or.inr (Or.inr (Or.inr (Or.inr (Or.inr (Or.inr (Or.inr (Or.inr (Or.inr (Or.inr (Or.inr (Or.inr (Or.inl (Int32.toInt_inj.mp e)))))))))))))
  · exact Or.inr (Or.inr (Or.inr (Or.inr (Or.inr (Or.inr (Or.inr (Or.inr (Or.inr (Or.inr (Or.inr (Or.inr (Or.inr (Or.inl (Int32.toInt_inj.mp e))))))))))))))
  · exact Or.inr (Or.inr (Or.inr (Or.inr (Or.inr (Or.inr (Or.inr (Or.inr (Or.inr (Or.inr (Or.inr (Or.inr (Or.inr (Or.inr (Or.inl (Int32.toInt_inj.mp e)))))))))))))))
  · exact Or.inr (Or.inr (Or.inr (Or.inr (Or.inr (Or.inr (Or.inr (Or.inr (Or.inr (Or.inr (Or.inr (Or.inr (Or.inr (Or.inr (Or.inr (Or.inl (Int32.toInt_inj.mp e))))))))))))))))
  · exact Or.inr (Or.inr (Or.inr (Or.inr (Or.inr (Or.inr (Or.inr (Or.inr (Or.inr (Or.inr (Or.inr (Or.inr (Or.inr (Or.inr (Or.inr (Or.inr (Or.inl (Int32.toInt_inj.mp e)))))))))))))))))
  · exact Or.inr (Or.inr (Or.inr (Or.inr (Or.inr (Or.inr (Or.inr (Or.inr (Or.inr (Or.inr (Or.inr (Or.inr (Or.inr (Or.inr (Or.inr (Or.inr (Or.inr (Or.inl (Int32.toInt_inj.mp e))))))))))))))))))
  · exact Or.inr (Or.inr (Or.inr (Or.inr (Or.inr (Or.inr (Or.inr (Or.inr (Or.inr (Or.inr (Or.inr (Or.inr (Or.inr (Or.inr (Or.inr (Or.inr (Or.inr (Or.inr ((Int32.toInt_inj.mp e)))))))))))))))))))
theorem nb_long {n : Nat} (h : n * 8 ≤ 536870912) : n * componentBytes .long ≤ 536870912 := h
theorem nb_int {n : Nat} (h : n * 8 ≤ 536870912) : n * componentBytes .int ≤ 536870912 := by show n * 4 ≤ _; omega
theorem nb_boolean {n : Nat} (h : n * 8 ≤ 536870912) : n * componentBytes .boolean ≤ 536870912 := by show n * 1 ≤ _; omega
/-- new T[n][k]: the outer array at the next address, the inner ones behind it -/
def nM (h : PH) (kd kd2 n k : Nat) : PH := (fun b => if b = hN h then kd else if hN h < b ∧ b ≤ hN h + n then kd2 else hK h b, fun b => if b = hN h then n else if hN h < b ∧ b ≤ hN h + n then k else hL h b,
  fun b j => if hN h ≤ b then 0 else hI h b j, fun b j => if hN h ≤ b then 0 else hJ h b j, fun b j => if b = hN h then (if j < n then hN h + 1 + j else 0) else if hN h < b then 0 else hR h b j, hN h + 1 + n, hS h + n + n * k)
variable {G : GG} {nc ns : Nat} {y : MI} {pc : Nat} {L : List (Option Value)} {S : List Value} {h : PH} {Z : Option Value → PH → Prop}
theorem r_multi_int {idx N K : Nat} {n k : Int32} (hd : decode y.2.1 pc = .ok (.multianewarray idx 2, 4)) (hw : Cond.classLink y.1.cls idx "[[I" ∈ lw_tbl) (hn : ¬ n < 0) (hNn : n.toNatClampNeg = N) (hN2 : N ≤ 1000) (hk : ¬ k < 0) (hKk : k.toNatClampNeg = K) (hK2 : K ≤ 1000) (h1 : hN h + (1 + N) ≤ nc) (h2 : hS h + (N + N * K) ≤ ns)
    (kk : RR G nc ns y (pc + 4) L (.ref (hN h) :: S) (nM h 5 2 N K) Z) : RR G nc ns y pc L (.int k :: .int n :: S) h Z := by
  sorry
theorem r_multi_long {idx N K : Nat} {n k : Int32} (hd : decode y.2.1 pc = .ok (.multianewarray idx 2, 4)) (hw : Cond.classLink y.1.cls idx "[[J" ∈ lw_tbl) (hn : ¬ n < 0) (hNn : n.toNatClampNeg = N) (hN2 : N ≤ 1000) (hk : ¬ k < 0) (hKk : k.toNatClampNeg = K) (hK2 : K ≤ 1000) (h1 : hN h + (1 + N) ≤ nc) (h2 : hS h + (N + N * K) ≤ ns)
    (kk : RR G nc ns y (pc + 4) L (.ref (hN h) :: S) (nM h 6 3 N K) Z) : RR G nc ns y pc L (.int k :: .int n :: S) h Z := by
  sorry
end MISC
