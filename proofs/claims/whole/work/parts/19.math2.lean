/-! the measuring's divisors -/
theorem mG.sum {zs : Nat → Int32} (h : mG zs) : -500 < (mSum zs).toInt ∧ (mSum zs).toInt ≤ 1111392000 := by
  obtain ⟨w, w0, w1, -, e⟩ := h.pressure
  obtain ⟨b0, b1⟩ := h.moment
  have e1 : (mSum zs).toInt = 500 * (m_pressure zs).toInt - (m_moment zs).toInt := lsub' (lmul' (show ((500 : Int64)).toInt = 500 by decide) (zi2l rfl) (by omega) (by omega)) rfl (by omega) (by omega)
  rw [e1]
  omega
theorem lg_ge0 (x : Int64) : (0 ≤ lg_cmp x 0) ↔ 0 ≤ x.toInt := by
  rw [lg_cmp_ge, Int64.le_iff_toInt_le]
  have : ((0 : Int64)).toInt = 0 := by decide
  rw [this]
theorem massBy_r {su : Int64} {arm : Int32} (h1 : su.toInt ≤ 1111392000) (h2 : 0 < arm.toInt) : 0 ≤ (m_massBy su arm).toInt ∧ (m_massBy su arm).toInt ≤ 1111392000 := by
  unfold m_massBy
  split
  · next h =>
    have h3 := (lg_ge0 su).mp h
    have h4 := Int.ediv_le_self arm.toInt h3
    have h5 := Int.ediv_nonneg h3 (Int.le_of_lt h2)
    rw [zl2i (ldiv' rfl (zi2l rfl) h3 h2) (by omega) (by omega)]
    omega
  · have : ((0 : Int32)).toInt = 0 := by decide
    omega
theorem ne0_i {x : Int32} (h : 0 < x.toInt) : ¬ x = 0 := by
  intro e
  rw [e] at h
  exact absurd h (by decide)
theorem mG.arm0 {zs : Nat → Int32} (h : mG zs) : 0 < (m_radius zs + 150).toInt := by
  obtain ⟨r0, r1⟩ := h.radius
  rw [zadd rfl (show ((150 : Int32)).toInt = 150 by decide) (by omega) (by omega)]
  omega
theorem mG.arm {zs : Nat → Int32} (h : mG zs) {q : Int32} (h0 : 0 ≤ q.toInt) (h1 : q.toInt ≤ 1111392000) : 0 < (m_radius zs + m_deflection zs q.toInt64 + 150).toInt := by
  obtain ⟨r0, r1⟩ := h.radius
  have eq : q.toInt64.toInt = q.toInt := zi2l rfl
  obtain ⟨d0, d1⟩ := h.defl (ma := q.toInt64) (by omega) (by omega)
  rw [eq] at d1
  rw [zadd (zadd rfl rfl (by omega) (by omega)) (show ((150 : Int32)).toInt = 150 by decide) (by omega) (by omega)]
  omega
theorem mG.arms {zs : Nat → Int32} (h : mG zs) : mArm zs := by
  obtain ⟨s0, s1⟩ := h.sum
  refine ⟨fun q => 0 ≤ q.toInt ∧ q.toInt ≤ 1111392000, ⟨ne0_i h.arm0, massBy_r s1 h.arm0⟩, fun q hq => ⟨ne0_i (h.arm hq.1 hq.2), massBy_r s1 (h.arm hq.1 hq.2)⟩⟩

