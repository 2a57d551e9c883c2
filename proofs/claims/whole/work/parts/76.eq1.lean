/-! both sides' numbers: the boom and the measuring -/
theorem greater_lt (a b : Int32) : m_greater a b = if a < b then b else a := by
  unfold m_greater
  by_cases h : a ≤ b
  · rw [if_pos h]
    by_cases h2 : a < b
    · rw [if_pos h2]
    · rw [if_neg h2]; exact Int32.le_antisymm (Int32.not_lt.mp h2) h
  · rw [if_neg h, if_neg (fun h2 => h (Int32.le_of_lt h2))]
theorem lesser_lt (a b : Int32) : m_lesser a b = if b < a then b else a := by
  unfold m_lesser
  by_cases h : b ≤ a
  · rw [if_pos h]
    by_cases h2 : b < a
    · rw [if_pos h2]
    · rw [if_neg h2]; exact Int32.le_antisymm h (Int32.not_lt.mp h2)
  · rw [if_neg h, if_neg (fun h2 => h (Int32.le_of_lt h2))]
theorem greater_sw (a b : Int32) : m_greater a b = if b < a then a else b := by
  unfold m_greater
  by_cases h : a ≤ b
  · rw [if_pos h, if_neg (fun h2 => absurd h (Int32.not_le.mpr h2))]
  · rw [if_neg h, if_pos (Int32.not_le.mp h)]
theorem lesser_sw (a b : Int32) : m_lesser a b = if a < b then a else b := by
  unfold m_lesser
  by_cases h : b ≤ a
  · rw [if_pos h, if_neg (fun h2 => absurd h (Int32.not_le.mpr h2))]
  · rw [if_neg h, if_pos (Int32.not_le.mp h)]
theorem cos_dec : ∀ n, n < 901 → x_X0_cosine (nI n) = m_cosine (nI n) := by decide +kernel
theorem q_cos {a : Int32} (h0 : 0 ≤ a.toInt) (h1 : a.toInt ≤ 900) : x_X0_cosine a = m_cosine a := by
  obtain ⟨e1, e2⟩ := nI_cl h0
  have := cos_dec a.toNatClampNeg (by omega)
  rw [← e1] at this
  exact this
theorem q_radius {le an : Int32} (h0 : 0 ≤ an.toInt) (h1 : an.toInt ≤ 850) : x_X0_radius le an = m_radiusOf le an := by
  rw [radiusOf_e, greater_lt, x_X0_radius, spLet_x, q_cos h0 (by omega)]
theorem q_tip {le an : Int32} (h0 : 0 ≤ an.toInt) (h1 : an.toInt ≤ 850) : x_X0_tip le an = m_heightOf le an := by
  have e : ((900 : Int32) - an).toInt = 900 - an.toInt := zsub (show ((900 : Int32)).toInt = 900 by decide) rfl (by omega) (by omega)
  rw [heightOf_e, x_X0_tip, spLet_x, q_cos (by omega) (by omega)]
theorem radius_of (zs : Nat → Int32) : m_radius zs = m_radiusOf (zs 0) (zs 1) := by rw [m_radius, spLet_x]
theorem height_of (zs : Nat → Int32) : m_height zs = m_heightOf (zs 0) (zs 1) := by rw [m_height, spLet_x]
theorem q_massFor {lom : Int64} {rad : Int32} (h : 0 < (rad + 150).toInt) : x_X2_massFor lom rad = m_massBy lom (rad + 150) := by
  have z : ((0 : Int64)).toInt = 0 := by decide
  have z2 : ((0 : Int32)).toInt = 0 := by decide
  have hp : 0 < rad + 150 := Int32.lt_iff_toInt_lt.mpr (by rw [z2]; exact h)
  rw [x_X2_massFor, spLet_x, if_pos hp]
  unfold m_massBy
  by_cases h1 : lg_cmp lom 0 ≤ 0
  · rw [if_pos h1]
    by_cases h2 : 0 ≤ lg_cmp lom 0
    · rw [if_pos h2]
      have h3 := Int64.le_iff_toInt_le.mp ((lg_cmp_le lom 0).mp h1)
      have h4 := Int64.le_iff_toInt_le.mp ((lg_cmp_ge lom 0).mp h2)
      have e : (lom / (rad + 150).toInt64).toInt = 0 / (rad + 150).toInt := ldiv' (show lom.toInt = 0 by omega) (zi2l rfl) (by omega) h
      apply Int32.toInt_inj.mp
      rw [zl2i (e.trans (Int.zero_ediv _)) (by omega) (by omega), z2]
    · rw [if_neg h2]
  · rw [if_neg h1]
    have h3 : ¬ lom ≤ 0 := fun k => h1 ((lg_cmp_le lom 0).mpr k)
    rw [if_pos ((lg_cmp_ge lom 0).mpr (Int64.le_of_lt (Int64.not_le.mp h3)))]
theorem q_hang (zs : Nat → Int32) : x_X0_hanging (zs 4) (zs 6) (zs 5) = mX zs := rfl
theorem q_defl {zs : Nat → Int32} (h : mG zs) {ma : Int64} (m0 : 0 ≤ ma.toInt) (m1 : ma.toInt ≤ 1200000000) : x_X0_deflection (zs 0) ma = (m_deflection zs ma).toInt64 := by
  obtain ⟨h1, h2⟩ := h.c0
  obtain ⟨d, -, -⟩ := defl_r (zs := zs) h1 h2 m0 m1
  apply Int64.toInt_inj.mp
  rw [zi2l rfl]
  exact d
theorem q_deflI (zs : Nat → Int32) (ma : Int64) : (x_X0_deflection (zs 0) ma).toInt32 = m_deflection zs ma := rfl
theorem q_moment (zs : Nat → Int32) : x_X0_boomMoment (zs 0) (m_radius zs) = m_moment zs := by rw [m_moment, spLet_x]; rfl
theorem pressure_e (zs : Nat → Int32) : m_pressure zs = (((mX zs).toInt64 * (m_radius zs + m_deflection zs (mX zs).toInt64 + 150).toInt64 + m_moment zs) / 500).toInt32 := rfl
theorem q_pressure {zs : Nat → Int32} (h : mG zs) : (((mX zs).toInt64 * ((m_radius zs).toInt64 + x_X0_deflection (zs 0) (mX zs).toInt64 + 150) + m_moment zs) / 500).toInt32 = m_pressure zs := by
  obtain ⟨r0, r1⟩ := h.radius
  obtain ⟨x0, x1⟩ := h.hangs
  have ex : (mX zs).toInt64.toInt = (mX zs).toInt := zi2l rfl
  obtain ⟨d0, d1⟩ := h.defl (ma := (mX zs).toInt64) (by omega) (by omega)
  rw [ex] at d1
  rw [pressure_e, q_defl h (by omega) (by omega)]
  have e : (m_radius zs).toInt64 + (m_deflection zs (mX zs).toInt64).toInt64 + 150 = (m_radius zs + m_deflection zs (mX zs).toInt64 + 150).toInt64 := by
    apply Int64.toInt_inj.mp
    rw [zi2l (zadd (zadd rfl rfl (by omega) (by omega)) (show ((150 : Int32)).toInt = 150 by decide) (by omega) (by omega))]
    exact ladd' (ladd' (zi2l rfl) (zi2l rfl) (by omega) (by omega)) (show ((150 : Int64)).toInt = 150 by decide) (by omega) (by omega)
  rw [e]
/-- the measuring, in its steps -/
def mS1 (zs : Nat → Int32) (q : Int32) : Int32 := m_radius zs + m_deflection zs q.toInt64
def mS2 (zs : Nat → Int32) (q : Int32) : Int32 := m_massBy (mSum zs) (mS1 zs q + 150)
def mS0 (zs : Nat → Int32) : Int32 := m_massBy (mSum zs) (m_radius zs + 150)
theorem measure_e (mr : Int32) (zs : Nat → Int32) : m_measure mr zs = (mS2 zs (mS2 zs (mS2 zs (mS0 zs))), mS1 zs (mS2 zs (mS2 zs (mS0 zs)))) := by
  have e : m_measure mr zs = spIter (fun _ _ _ => default) (m_measure_b37 zs (mSum zs) (m_radius zs)) 4 0 (mS0 zs) mr := by
    unfold m_measure mS0 mSum
    simp only [spLet_x]
  rw [e]
  simp only [spIter, m_measure_b37, spLet_x]
  rw [if_neg (by decide), if_neg (by decide), if_neg (by decide), if_pos (by decide)]
  rfl
theorem mS_r {zs : Nat → Int32} (h : mG zs) {q : Int32} (hq : 0 ≤ q.toInt ∧ q.toInt ≤ 1111392000) : 0 ≤ (mS2 zs q).toInt ∧ (mS2 zs q).toInt ≤ 1111392000 := massBy_r h.sum.2 (h.arm hq.1 hq.2)
theorem mS0_r {zs : Nat → Int32} (h : mG zs) : 0 ≤ (mS0 zs).toInt ∧ (mS0 zs).toInt ≤ 1111392000 := massBy_r h.sum.2 h.arm0
/-- measured mass and radius: they speak of the cells alone -/
def mMas (zs : Nat → Int32) : Int32 := mS2 zs (mS2 zs (mS2 zs (mS0 zs)))
def mRad (zs : Nat → Int32) : Int32 := mS1 zs (mS2 zs (mS2 zs (mS0 zs)))
set_option maxRecDepth 100000 in
theorem q_read {zs : Nat → Int32} (h : mG zs) : x_X2_read (zs 0) (zs 1) (zs 4) (zs 6) (zs 5) = (m_pressure zs, mMas zs, mRad zs, m_netLoad (mMas zs) zs) := by
  unfold mMas mRad
  have hr : x_X0_radius (zs 0) (zs 1) = m_radius zs := by rw [radius_of]; exact q_radius h.c1.1 h.c1.2
  have h0 := mS0_r h
  have h1 := mS_r h h0
  have h2 := mS_r h h1
  have e0 : x_X2_massFor (mSum zs) (m_radius zs) = mS0 zs := q_massFor h.arm0
  have e1 : ∀ q : Int32, 0 ≤ q.toInt ∧ q.toInt ≤ 1111392000 → x_X2_massFor (mSum zs) (m_radius zs + m_deflection zs q.toInt64) = mS2 zs q := fun q hq => q_massFor (h.arm hq.1 hq.2)
  have en : ∀ r : Int32, (if r - zs 5 < (0 : Int32) then (0 : Int32) else (r - zs 5)) = m_netLoad r zs := fun r => by rw [m_netLoad, spLet_x, greater_sw]
  unfold x_X2_read
  refine (spLet_eq (u := m_radius zs) hr.symm).trans ?_
  refine (spLet_eq (u := m_moment zs) (q_moment zs).symm).trans ?_
  refine (spLet_eq (u := mX zs) (q_hang zs).symm).trans ?_
  refine (spLet_eq rfl).trans ?_
  refine (spLet_eq rfl).trans ?_
  refine (spLet_eq (u := m_pressure zs) (q_pressure h).symm).trans ?_
  refine (spLet_eq (u := mSum zs) rfl).trans ?_
  refine (spLet_eq (u := mS0 zs) e0.symm).trans ?_
  refine (spLet_eq rfl).trans ?_
  refine (spLet_eq (u := mS1 zs (mS0 zs)) rfl).trans ?_
  refine (spLet_eq (u := mS2 zs (mS0 zs)) (e1 _ h0).symm).trans ?_
  generalize mS2 zs (mS0 zs) = q1 at h1 h2 ⊢
  refine (spLet_eq rfl).trans ?_
  refine (spLet_eq (u := mS1 zs q1) rfl).trans ?_
  refine (spLet_eq (u := mS2 zs q1) (e1 _ h1).symm).trans ?_
  generalize mS2 zs q1 = q2 at h2 ⊢
  refine (spLet_eq rfl).trans ?_
  refine (spLet_eq (u := mS1 zs q2) rfl).trans ?_
  refine (spLet_eq (u := mS2 zs q2) (e1 _ h2).symm).trans ?_
  refine (spLet_eq (u := m_netLoad (mS2 zs q2) zs) (en _).symm).trans ?_
  rfl
