/-! small facts of the class's pictures -/
theorem belowL_e (va : Int32) : x_X1_belowL va = if va < 3500 then (if va < 2000 then 0 else 1) else 2 := by
  by_cases h1 : va < 2000 <;> by_cases h2 : va < 3500 <;> simp [x_X1_belowL, spIter, x_X1_belowL_b4, x_X1_belowL_j21, tLen, lstI, h1, h2] <;> rfl
theorem belowR_e (va : Int32) : x_X1_belowR va = if va < 2200 then (if va < 1500 then (if va < 1000 then (if va < 600 then 0 else 1) else 2) else 3) else 4 := by
  by_cases h1 : va < 600 <;> by_cases h2 : va < 1000 <;> by_cases h3 : va < 1500 <;> by_cases h4 : va < 2200 <;> simp [x_X1_belowR, spIter, x_X1_belowR_b4, x_X1_belowR_j21, tRad, lstI, h1, h2, h3, h4] <;> rfl
theorem belowL_n (va : Int32) : x_X1_belowL va = nI (x_X1_belowL va).toNatClampNeg ∧ (x_X1_belowL va).toNatClampNeg < 3 := by
  rw [belowL_e]
  split
  · split <;> decide
  · decide
theorem belowR_n (va : Int32) : x_X1_belowR va = nI (x_X1_belowR va).toNatClampNeg ∧ (x_X1_belowR va).toNatClampNeg < 5 := by
  rw [belowR_e]
  split
  · split
    · split
      · split <;> decide
      · decide
    · decide
  · decide
theorem fm30_all : ∀ n, n < 61 → j_J9_floorMod_7cf53 (nI n) 30 = nI (n % 30) := by decide +kernel
theorem slotOf_e {a b : Int32} (ha : 0 ≤ a.toInt ∧ a.toInt < 30) (hb : 0 ≤ b.toInt ∧ b.toInt ≤ 30) : x_X3_slotOf a b = nI ((a.toNatClampNeg + b.toNatClampNeg) % 30) := by
  obtain ⟨a1, a2⟩ := nI_cl ha.1
  obtain ⟨b1, b2⟩ := nI_cl hb.1
  have e : x_X3_slotOf a b = j_J9_floorMod_7cf53 (a + b) 30 := by unfold x_X3_slotOf; simp only [spLet_x]
  rw [e, nadd a1 b1]
  exact fm30_all _ (by omega)
theorem slotOf_n {a b : Int32} (ha : 0 ≤ a.toInt ∧ a.toInt < 30) (hb : 0 ≤ b.toInt ∧ b.toInt ≤ 30) : x_X3_slotOf a b = nI (x_X3_slotOf a b).toNatClampNeg ∧ (x_X3_slotOf a b).toNatClampNeg < 30 := by
  rw [slotOf_e ha hb]
  have h : (a.toNatClampNeg + b.toNatClampNeg) % 30 < 30 := Nat.mod_lt _ (by decide)
  rw [nI_clamp (by omega)]
  exact ⟨rfl, h⟩
theorem xnI_b {k n : Nat} (h : k ≤ n) (hn : n < 1000) : 0 ≤ (nI k).toInt ∧ (nI k).toInt ≤ n := by
  rw [nI_toInt (by omega)]; omega
theorem fl_n {g u : Int32} (h : 0 ≤ g) {x y : Int32} (ex : x = if g < u then u else g) (ey : y = if (7 : Int32) < x / 125 then 7 else x / 125) : y = nI y.toNatClampNeg ∧ y.toNatClampNeg < 8 := by
  have z : ((0 : Int32)).toInt = 0 := by decide
  have h0 := Int32.le_iff_toInt_le.mp h
  have hx : 0 ≤ x.toInt := by
    rw [ex]
    split
    · rename_i c
      have := Int32.lt_iff_toInt_lt.mp c
      omega
    · omega
  have hr := fb_rng x
  have e1 : (x / 125).toInt = x.toInt / 125 := zdiv rfl (show ((125 : Int32)).toInt = 125 by decide) hx (by omega)
  have e7 : ((7 : Int32)).toInt = 7 := by decide
  have hy : 0 ≤ y.toInt ∧ y.toInt < 8 := by
    rw [ey]
    split
    · omega
    · rename_i c
      have : ¬ (7 : Int) < (x / 125).toInt := fun k => c (Int32.lt_iff_toInt_lt.mpr (by rw [e7]; exact k))
      omega
  obtain ⟨a1, a2⟩ := nI_cl hy.1
  exact ⟨a1, by omega⟩
theorem xsp {v : Int64} (h : 0 < lg_cmp v 0) : ¬ lg_cmp v 0 = 0 := fun e => by rw [e] at h; exact absurd h (by decide)
theorem xnI_30 {k : Nat} (h : k ≤ 30) : 0 ≤ (nI k).toInt ∧ (nI k).toInt ≤ 30 := by
  rw [nI_toInt (by omega)]; omega
/-- the ranges of the ring's two numbers -/
def gR (o c : Int32) : Prop := (0 ≤ o.toInt ∧ o.toInt < 30) ∧ (0 ≤ c.toInt ∧ c.toInt ≤ 30)
/-- floorMod by a small number: in its range, whatever is divided -/
theorem fm_rem (x d : Int32) (n : Nat) (hd : d.toInt = n) (h0 : 0 < n) (hn : n < 1000) : (x - x / d * d).toInt = x.toInt.tmod n := by
  have hr := fb_rng x
  have hne : d ≠ -1 := by
    intro h
    rw [h] at hd
    have h3 : ((-1 : Int32)).toInt = -1 := by decide
    omega
  have e1 : (x / d).toInt = x.toInt.tdiv n := by rw [Int32.toInt_div_of_ne_right _ _ hne, hd]
  have e2 : x.toInt.tmod n + n * x.toInt.tdiv n = x.toInt := Int.tmod_add_mul_tdiv ..
  have h5 : -(n : Int) < x.toInt.tmod n ∧ x.toInt.tmod n < n := ⟨Int.lt_tmod_of_pos _ (by omega), Int.tmod_lt_of_pos _ (by omega)⟩
  rw [Int.mul_comm] at e2
  by_cases hx : 0 ≤ x.toInt
  · have h6 : 0 ≤ x.toInt.tmod n := Int.tmod_nonneg _ hx
    have h7 : 0 ≤ x.toInt.tdiv n * n := Int.mul_nonneg (Int.tdiv_nonneg hx (by omega)) (by omega)
    rw [zsub rfl (zmul e1 hd (by omega) (by omega)) (by omega) (by omega)]
    omega
  · have e9 : x.toInt.tdiv n = -((-x.toInt).tdiv n) := by rw [Int.neg_tdiv]; omega
    have h7 : 0 ≤ (-x.toInt).tdiv n * n := Int.mul_nonneg (Int.tdiv_nonneg (by omega) (by omega)) (by omega)
    have h8 : x.toInt.tdiv n * n ≤ 0 := by rw [e9, Int.neg_mul]; omega
    have h10 : x.toInt.tmod n = -((-x.toInt).tmod n) := by rw [Int.neg_tmod]; omega
    have h11 := Int.tmod_nonneg (n : Int) (show 0 ≤ -x.toInt by omega)
    rw [zsub rfl (zmul e1 hd (by omega) (by omega)) (by omega) (by omega)]
    omega
theorem xor_sign (x d : Int32) (hd : 0 ≤ d.toInt) : 0 ≤ x ^^^ d ↔ 0 ≤ x.toInt := by
  have z : ((0 : Int32)).toInt = 0 := by decide
  have e1 : (x ^^^ d).toBitVec.msb = (x.toBitVec.msb ^^ d.toBitVec.msb) := by rw [Int32.toBitVec_xor, BitVec.msb_xor]
  have e2 : ∀ y : Int32, y.toBitVec.msb = decide (y.toInt < 0) := fun y => BitVec.msb_eq_toInt
  rw [e2, e2, e2, show decide (d.toInt < 0) = false from decide_eq_false (by omega), Bool.xor_false] at e1
  rw [Int32.le_iff_toInt_le, z]
  have e3 := decide_eq_decide.mp e1
  omega
theorem fm_rng (x d : Int32) (n : Nat) (hd : d.toInt = n) (h0 : 0 < n) (hn : n < 1000) : 0 ≤ (j_J9_floorMod_7cf53 x d).toInt ∧ (j_J9_floorMod_7cf53 x d).toInt < n := by
  have h1 := fm_rem x d n hd h0 hn
  have h5 : -(n : Int) < x.toInt.tmod n ∧ x.toInt.tmod n < n := ⟨Int.lt_tmod_of_pos _ (by omega), Int.tmod_lt_of_pos _ (by omega)⟩
  have z : ((0 : Int32)).toInt = 0 := by decide
  unfold j_J9_floorMod_7cf53
  simp only [spLet_x]
  split
  · rename_i c
    have h6 := Int.tmod_nonneg (n : Int) ((xor_sign x d (by omega)).mp c)
    omega
  · rename_i c
    have h7 : ¬ 0 ≤ x.toInt := fun h => c ((xor_sign x d (by omega)).mpr h)
    have h8 : x.toInt.tmod n = -((-x.toInt).tmod n) := by rw [Int.neg_tmod]; omega
    have h9 := Int.tmod_nonneg (n : Int) (show 0 ≤ -x.toInt by omega)
    split
    · rename_i c2
      rw [c2, z]
      omega
    · rename_i c2
      have h10 : ¬ (x - x / d * d).toInt = 0 := fun h => c2 (Int32.toInt_inj.mp (by rw [h, z]))
      rw [zadd h1 hd (by omega) (by omega)]
      omega
theorem fm30_r (x : Int32) : 0 ≤ (j_J9_floorMod_7cf53 x 30).toInt ∧ (j_J9_floorMod_7cf53 x 30).toInt < 30 := fm_rng x 30 30 (by decide) (by decide) (by decide)
theorem slotOf_m (a b : Int32) : x_X3_slotOf a b = nI (x_X3_slotOf a b).toNatClampNeg ∧ (x_X3_slotOf a b).toNatClampNeg < 30 := by
  have e : x_X3_slotOf a b = j_J9_floorMod_7cf53 (a + b) 30 := by unfold x_X3_slotOf; simp only [spLet_x]
  obtain ⟨h1, h2⟩ := fm30_r (a + b)
  obtain ⟨a1, a2⟩ := nI_cl (a := x_X3_slotOf a b) (by rw [e]; exact h1)
  refine ⟨a1, ?_⟩
  rw [e] at a2 ⊢
  omega

