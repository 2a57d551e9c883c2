/-! what the tests of arguments leave for the rows -/
theorem okA_n {v hi : Int32} {n : Nat} (hn : hi.toInt = n) (h : okA v 0 hi) : v = nI v.toNatClampNeg ∧ v.toNatClampNeg ≤ n := by
  have z : ((0 : Int32)).toInt = 0 := by decide
  obtain ⟨h1, h2⟩ := h
  obtain ⟨a1, a2⟩ := nI_cl (by omega : 0 ≤ v.toInt)
  exact ⟨a1, by omega⟩
theorem okI_n {a n : Int32} (h : okI a n) : a = nI a.toNatClampNeg ∧ a.toNatClampNeg < n.toNatClampNeg := by
  obtain ⟨h1, h2⟩ := h
  obtain ⟨a1, a2⟩ := nI_cl h1
  obtain ⟨b1, b2⟩ := nI_cl (by omega : 0 ≤ n.toInt)
  exact ⟨a1, by omega⟩
theorem okA_n1 {v hi : Int32} {n : Nat} (hn : hi.toInt = n) (h : okA v 1 hi) : v = nI v.toNatClampNeg ∧ v.toNatClampNeg ≤ n := by
  have z : ((1 : Int32)).toInt = 1 := by decide
  obtain ⟨h1, h2⟩ := h
  obtain ⟨a1, a2⟩ := nI_cl (by omega : 0 ≤ v.toInt)
  exact ⟨a1, by omega⟩
theorem cw_e (fr to : Int32) : x_X8_clockwise fr to = if to < fr then to - fr + 3600 else to - fr := by
  unfold x_X8_clockwise
  rfl
theorem cw_n {fr to : Int32} (h1 : okA fr 0 3599) (h2 : okA to 0 3599) : x_X8_clockwise fr to = nI (x_X8_clockwise fr to).toNatClampNeg ∧ (x_X8_clockwise fr to).toNatClampNeg < 3600 := by
  have z : ((0 : Int32)).toInt = 0 := by decide
  have z2 : ((3599 : Int32)).toInt = 3599 := by decide
  have z3 : ((3600 : Int32)).toInt = 3600 := by decide
  unfold okA at h1 h2
  have hb : 0 ≤ (x_X8_clockwise fr to).toInt ∧ (x_X8_clockwise fr to).toInt < 3600 := by
    rw [cw_e]
    split
    · rename_i c
      have := Int32.lt_iff_toInt_lt.mp c
      rw [zadd (zsub rfl rfl (by omega) (by omega)) z3 (by omega) (by omega)]
      omega
    · rename_i c
      have : ¬ to.toInt < fr.toInt := fun h => c (Int32.lt_iff_toInt_lt.mpr h)
      rw [zsub rfl rfl (by omega) (by omega)]
      omega
  obtain ⟨a1, a2⟩ := nI_cl hb.1
  exact ⟨a1, by omega⟩
theorem mrad_step {x y : Int32} {n : Nat} (hi : 299 ≤ x.toInt ∧ x.toInt ≤ 3000 ∧ x.toInt < 299 + ((n + 1 : Nat) : Int)) (h : ¬ x < 300) (e : y = x + (-1 : Int32)) : 299 ≤ y.toInt ∧ y.toInt ≤ 3000 ∧ y.toInt < 299 + (n : Int) := by
  have h3 := Int32.le_iff_toInt_le.mp (Int32.not_lt.mp h)
  have z : ((300 : Int32)).toInt = 300 := by decide
  have e1 : y.toInt = x.toInt + -1 := by rw [e]; exact zadd rfl (show ((-1 : Int32)).toInt = -1 by decide) (by omega) (by omega)
  omega
theorem sc_step {c : Int32} {k n : Nat} (hi : k ≤ c.toNatClampNeg ∧ c.toNatClampNeg < k + (n + 1)) (h : ¬ c ≤ nI k) : k + 1 ≤ c.toNatClampNeg ∧ c.toNatClampNeg < k + 1 + n := by
  have h3 := Int32.lt_iff_toInt_lt.mp (Int32.not_le.mp h)
  have hr := fb_rng c
  have h2 : c.toNatClampNeg = c.toInt.toNat := rfl
  rw [nI_toInt (by omega)] at h3
  omega
theorem fm4_dec : ∀ k, k < 4 → j_J9_floorMod_7cf53 (nI k - 1) 4 = nI ((k + 3) % 4) := by decide +kernel
theorem fm4_e {x : Int32} (h1 : x = nI x.toNatClampNeg) (h2 : x.toNatClampNeg < 4) : j_J9_floorMod_7cf53 (x - 1) 4 = nI ((x.toNatClampNeg + 3) % 4) := by
  have := fm4_dec _ h2
  rw [← h1] at this
  exact this
theorem fm4_n {x : Int32} (h1 : x = nI x.toNatClampNeg) (h2 : x.toNatClampNeg < 4) : j_J9_floorMod_7cf53 (x - 1) 4 = nI (j_J9_floorMod_7cf53 (x - 1) 4).toNatClampNeg ∧ (j_J9_floorMod_7cf53 (x - 1) 4).toNatClampNeg < 4 := by
  rw [fm4_e h1 h2]
  have : (x.toNatClampNeg + 3) % 4 < 4 := Nat.mod_lt _ (by decide)
  rw [nI_clamp (by omega)]
  exact ⟨rfl, this⟩

