theorem xne_pos {x : Int32} (h : ¬ x ≤ 0) : ¬ x = 0 := fun e => h (by rw [e]; decide)
theorem xnn {x : Int32} (h : ¬ x < 0) : 0 ≤ x.toInt := by
  have h1 := Int32.not_lt.mp h
  have h2 := Int32.le_iff_toInt_le.mp h1
  have h3 : ((0 : Int32)).toInt = 0 := by decide
  omega
/-- an int between 0 and a bound, as a natural number -/
theorem xin {x N : Int32} {n : Nat} (hN : N.toInt = n) (h : ¬ x < 0) (h2 : x < N) : x = nI x.toNatClampNeg ∧ x.toNatClampNeg < n := by
  have h0 := xnn h
  have h3 := Int32.lt_iff_toInt_lt.mp h2
  obtain ⟨e1, e2⟩ := nI_cl h0
  exact ⟨e1, by omega⟩
theorem xcos_k {x : Int32} (h : ¬ x < 0) (h2 : x < (10 : Int32) - (1 : Int32)) : x = nI x.toNatClampNeg ∧ x.toNatClampNeg < 9 := xin (by decide) h h2
theorem xne_lt {x : Int32} (h : 0 < x) : ¬ x = 0 := fun e => by rw [e] at h; exact absurd h (by decide)
/-- an int between 0 and a bound, by the branch that was not taken -/
theorem xinG {x N : Int32} {n : Nat} (hN : N.toInt = n) (h : ¬ x < 0) (h2 : ¬ N ≤ x) : x = nI x.toNatClampNeg ∧ x.toNatClampNeg < n := xin hN h (Int32.not_le.mp h2)
theorem xcmp_ne {x : Int64} (h : 0 < lg_cmp x 0) : ¬ x = 0 := fun e => by rw [e] at h; exact absurd h (by decide)
/-- counting down: an index above 0 and the one below it -/
theorem xdn {x : Int32} {n : Nat} (h : ¬ x ≤ 0) (h2 : x.toInt < n) (hn : n < 1000) : (x = nI x.toNatClampNeg ∧ x.toNatClampNeg < n ∧ 0 < x.toNatClampNeg) ∧ vp_in (x - 1) n ∧ (x - 1).toNatClampNeg = x.toNatClampNeg - 1 := by
  have h1 := Int32.not_le.mp h
  have h3 := Int32.lt_iff_toInt_lt.mp h1
  have z : ((0 : Int32)).toInt = 0 := by decide
  obtain ⟨e1, e2⟩ := nI_cl (a := x) (by omega)
  have e4 : x - 1 = nI (x.toNatClampNeg - 1) := nsub e1 (show (1 : Int32) = nI 1 from rfl) (by omega)
  refine ⟨⟨e1, by omega, by omega⟩, ?_, ?_⟩
  · rw [e4]; exact vp_in_nI (by omega) (by omega)
  · rw [e4]; exact nI_clamp (by omega)
theorem xdn_step {x y : Int32} {n : Nat} (hi : 0 ≤ x.toInt ∧ x.toInt < 4 ∧ x.toInt < ((n + 1 : Nat) : Int)) (h : ¬ x ≤ 0) (e : y = x + (-1 : Int32)) : 0 ≤ y.toInt ∧ y.toInt < 4 ∧ y.toInt < (n : Int) := by
  have h3 := Int32.lt_iff_toInt_lt.mp (Int32.not_le.mp h)
  have z : ((0 : Int32)).toInt = 0 := by decide
  have e1 : y.toInt = x.toInt + -1 := by rw [e]; exact zadd rfl (show ((-1 : Int32)).toInt = -1 by decide) (by omega) (by omega)
  omega

