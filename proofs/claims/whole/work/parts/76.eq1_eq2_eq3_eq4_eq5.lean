/-! both sides' numbers: the boom and the measuring -/
theorem greater_lt (a b : Int32) : m_greater a b = if a < b then b else a := by
  unfold m_greater
  by_cases h : a ≤ b
  · rw [if_pos h]
    by_cases h2 : a < b
    · rw [if_pos h2]
    · rw [if_neg h2]; exact Int32.le_antisymm (Int32.not_lt.mp h2) h
  · rw [if_neg h, if_neg (fun h2 => h (Int32.le_of_lt h2))]
theorem lesser_lt (a b : Int32) : m_lesser a b = if b < a then b else a := by
  unfold m_lesser
  by_cases h : b ≤ a
  · rw [if_pos h]
    by_cases h2 : b < a
    · rw [if_pos h2]
    · rw [if_neg h2]; exact Int32.le_antisymm h (Int32.not_lt.mp h2)
  · rw [if_neg h, if_neg (fun h2 => h (Int32.le_of_lt h2))]
theorem greater_sw (a b : Int32) : m_greater a b = if b < a then a else b := by
  unfold m_greater
  by_cases h : a ≤ b
  · rw [if_pos h, if_neg (fun h2 => absurd h (Int32.not_le.mpr h2))]
  · rw [if_neg h, if_pos (Int32.not_le.mp h)]
theorem lesser_sw (a b : Int32) : m_lesser a b = if a < b then a else b := by
  unfold m_lesser
  by_cases h : b ≤ a
  · rw [if_pos h, if_neg (fun h2 => absurd h (Int32.not_le.mpr h2))]
  · rw [if_neg h, if_pos (Int32.not_le.mp h)]
theorem cos_dec : ∀ n, n < 901 → x_X0_cosine (nI n) = m_cosine (nI n) := by decide +kernel
theorem q_cos {a : Int32} (h0 : 0 ≤ a.toInt) (h1 : a.toInt ≤ 900) : x_X0_cosine a = m_cosine a := by
  obtain ⟨e1, e2⟩ := nI_cl h0
  have := cos_dec a.toNatClampNeg (by omega)
  rw [← e1] at this
  exact this
theorem q_radius {le an : Int32} (h0 : 0 ≤ an.toInt) (h1 : an.toInt ≤ 850) : x_X0_radius le an = m_radiusOf le an := by
  rw [radiusOf_e, greater_lt, x_X0_radius, spLet_x, q_cos h0 (by omega)]
theorem q_tip {le an : Int32} (h0 : 0 ≤ an.toInt) (h1 : an.toInt ≤ 850) : x_X0_tip le an = m_heightOf le an := by
  have e : ((900 : Int32) - an).toInt = 900 - an.toInt := zsub (show ((900 : Int32)).toInt = 900 by decide) rfl (by omega) (by omega)
  rw [heightOf_e, x_X0_tip, spLet_x, q_cos (by omega) (by omega)]
theorem radius_of (zs : Nat → Int32) : m_radius zs = m_radiusOf (zs 0) (zs 1) := by rw [m_radius, spLet_x]
theorem height_of (zs : Nat → Int32) : m_height zs = m_heightOf (zs 0) (zs 1) := by rw [m_height, spLet_x]
theorem q_massFor {lom : Int64} {rad : Int32} (h : 0 < (rad + 150).toInt) : x_X2_massFor lom rad = m_massBy lom (rad + 150) := by
  have z : ((0 : Int64)).toInt = 0 := by decide
  have z2 : ((0 : Int32)).toInt = 0 := by decide
  have hp : 0 < rad + 150 := Int32.lt_iff_toInt_lt.mpr (by rw [z2]; exact h)
  rw [x_X2_massFor, spLet_x, if_pos hp]
  unfold m_massBy
  by_cases h1 : lg_cmp lom 0 ≤ 0
  · rw [if_pos h1]
    by_cases h2 : 0 ≤ lg_cmp lom 0
    · rw [if_pos h2]
      have h3 := Int64.le_iff_toInt_le.mp ((lg_cmp_le lom 0).mp h1)
      have h4 := Int64.le_iff_toInt_le.mp ((lg_cmp_ge lom 0).mp h2)
      have e : (lom / (rad + 150).toInt64).toInt = 0 / (rad + 150).toInt := ldiv' (show lom.toInt = 0 by omega) (zi2l rfl) (by omega) h
      apply Int32.toInt_inj.mp
      rw [zl2i (e.trans (Int.zero_ediv _)) (by omega) (by omega), z2]
    · rw [if_neg h2]
  · rw [if_neg h1]
    have h3 : ¬ lom ≤ 0 := fun k => h1 ((lg_cmp_le lom 0).mpr k)
    rw [if_pos ((lg_cmp_ge lom 0).mpr (Int64.le_of_lt (Int64.not_le.mp h3)))]
theorem q_hang (zs : Nat → Int32) : x_X0_hanging (zs 4) (zs 6) (zs 5) = mX zs := rfl
theorem q_defl {zs : Nat → Int32} (h : mG zs) {ma : Int64} (m0 : 0 ≤ ma.toInt) (m1 : ma.toInt ≤ 1200000000) : x_X0_deflection (zs 0) ma = (m_deflection zs ma).toInt64 := by
  obtain ⟨h1, h2⟩ := h.c0
  obtain ⟨d, -, -⟩ := defl_r (zs := zs) h1 h2 m0 m1
  apply Int64.toInt_inj.mp
  rw [zi2l rfl]
  exact d
theorem q_deflI (zs : Nat → Int32) (ma : Int64) : (x_X0_deflection (zs 0) ma).toInt32 = m_deflection zs ma := rfl
theorem q_moment (zs : Nat → Int32) : x_X0_boomMoment (zs 0) (m_radius zs) = m_moment zs := by rw [m_moment, spLet_x]; rfl
theorem pressure_e (zs : Nat → Int32) : m_pressure zs = (((mX zs).toInt64 * (m_radius zs + m_deflection zs (mX zs).toInt64 + 150).toInt64 + m_moment zs) / 500).toInt32 := rfl
theorem q_pressure {zs : Nat → Int32} (h : mG zs) : (((mX zs).toInt64 * ((m_radius zs).toInt64 + x_X0_deflection (zs 0) (mX zs).toInt64 + 150) + m_moment zs) / 500).toInt32 = m_pressure zs := by
  obtain ⟨r0, r1⟩ := h.radius
  obtain ⟨x0, x1⟩ := h.hangs
  have ex : (mX zs).toInt64.toInt = (mX zs).toInt := zi2l rfl
  obtain ⟨d0, d1⟩ := h.defl (ma := (mX zs).toInt64) (by omega) (by omega)
  rw [ex] at d1
  rw [pressure_e, q_defl h (by omega) (by omega)]
  have e : (m_radius zs).toInt64 + (m_deflection zs (mX zs).toInt64).toInt64 + 150 = (m_radius zs + m_deflection zs (mX zs).toInt64 + 150).toInt64 := by
    apply Int64.toInt_inj.mp
    rw [zi2l (zadd (zadd rfl rfl (by omega) (by omega)) (show ((150 : Int32)).toInt = 150 by decide) (by omega) (by omega))]
    exact ladd' (ladd' (zi2l rfl) (zi2l rfl) (by omega) (by omega)) (show ((150 : Int64)).toInt = 150 by decide) (by omega) (by omega)
  rw [e]
/-- the measuring, in its steps -/
def mS1 (zs : Nat → Int32) (q : Int32) : Int32 := m_radius zs + m_deflection zs q.toInt64
def mS2 (zs : Nat → Int32) (q : Int32) : Int32 := m_massBy (mSum zs) (mS1 zs q + 150)
def mS0 (zs : Nat → Int32) : Int32 := m_massBy (mSum zs) (m_radius zs + 150)
theorem measure_e (mr : Int32) (zs : Nat → Int32) : m_measure mr zs = (mS2 zs (mS2 zs (mS2 zs (mS0 zs))), mS1 zs (mS2 zs (mS2 zs (mS0 zs)))) := by
  have e : m_measure mr zs = spIter (fun _ _ _ => default) (m_measure_b37 zs (mSum zs) (m_radius zs)) 4 0 (mS0 zs) mr := by
    unfold m_measure mS0 mSum
    simp only [spLet_x]
  rw [e]
  simp only [spIter, m_measure_b37, spLet_x]
  rw [if_neg (by decide), if_neg (by decide), if_neg (by decide), if_pos (by decide)]
  rfl
theorem mS_r {zs : Nat → Int32} (h : mG zs) {q : Int32} (hq : 0 ≤ q.toInt ∧ q.toInt ≤ 1111392000) : 0 ≤ (mS2 zs q).toInt ∧ (mS2 zs q).toInt ≤ 1111392000 := massBy_r h.sum.2 (h.arm hq.1 hq.2)
theorem mS0_r {zs : Nat → Int32} (h : mG zs) : 0 ≤ (mS0 zs).toInt ∧ (mS0 zs).toInt ≤ 1111392000 := massBy_r h.sum.2 h.arm0
/-- measured mass and radius: they speak of the cells alone -/
def mMas (zs : Nat → Int32) : Int32 := mS2 zs (mS2 zs (mS2 zs (mS0 zs)))
def mRad (zs : Nat → Int32) : Int32 := mS1 zs (mS2 zs (mS2 zs (mS0 zs)))
set_option maxRecDepth 100000 in
theorem q_read {zs : Nat → Int32} (h : mG zs) : x_X2_read (zs 0) (zs 1) (zs 4) (zs 6) (zs 5) = (m_pressure zs, mMas zs, mRad zs, m_netLoad (mMas zs) zs) := by
  unfold mMas mRad
  have hr : x_X0_radius (zs 0) (zs 1) = m_radius zs := by rw [radius_of]; exact q_radius h.c1.1 h.c1.2
  have h0 := mS0_r h
  have h1 := mS_r h h0
  have h2 := mS_r h h1
  have e0 : x_X2_massFor (mSum zs) (m_radius zs) = mS0 zs := q_massFor h.arm0
  have e1 : ∀ q : Int32, 0 ≤ q.toInt ∧ q.toInt ≤ 1111392000 → x_X2_massFor (mSum zs) (m_radius zs + m_deflection zs q.toInt64) = mS2 zs q := fun q hq => q_massFor (h.arm hq.1 hq.2)
  have en : ∀ r : Int32, (if r - zs 5 < (0 : Int32) then (0 : Int32) else (r - zs 5)) = m_netLoad r zs := fun r => by rw [m_netLoad, spLet_x, greater_sw]
  unfold x_X2_read
  refine (spLet_eq (u := m_radius zs) hr.symm).trans ?_
  refine (spLet_eq (u := m_moment zs) (q_moment zs).symm).trans ?_
  refine (spLet_eq (u := mX zs) (q_hang zs).symm).trans ?_
  refine (spLet_eq rfl).trans ?_
  refine (spLet_eq rfl).trans ?_
  refine (spLet_eq (u := m_pressure zs) (q_pressure h).symm).trans ?_
  refine (spLet_eq (u := mSum zs) rfl).trans ?_
  refine (spLet_eq (u := mS0 zs) e0.symm).trans ?_
  refine (spLet_eq rfl).trans ?_
  refine (spLet_eq (u := mS1 zs (mS0 zs)) rfl).trans ?_
  refine (spLet_eq (u := mS2 zs (mS0 zs)) (e1 _ h0).symm).trans ?_
  generalize mS2 zs (mS0 zs) = q1 at h1 h2 ⊢
  refine (spLet_eq rfl).trans ?_
  refine (spLet_eq (u := mS1 zs q1) rfl).trans ?_
  refine (spLet_eq (u := mS2 zs q1) (e1 _ h1).symm).trans ?_
  generalize mS2 zs q1 = q2 at h2 ⊢
  refine (spLet_eq rfl).trans ?_
  refine (spLet_eq (u := mS1 zs q2) rfl).trans ?_
  refine (spLet_eq (u := mS2 zs q2) (e1 _ h2).symm).trans ?_
  refine (spLet_eq (u := m_netLoad (mS2 zs q2) zs) (en _).symm).trans ?_
  rfl

/-! both sides' numbers: wind, tables, capacities -/
theorem q_wind {cs zs : Nat → Int32} (h : ∀ k, k < 4 → cs k = zs (17 - k)) : x_X1_windSpeed cs = m_windNow zs := by
  have e1 : x_X1_windSpeed cs = m_greater (cs 3) (m_greater (cs 2) (m_greater (cs 1) (m_greater (cs 0) 0))) := by
    unfold x_X1_windSpeed
    have hj : ∀ (k : Nat) (r : Int32 → Nat → Int32) (v x : Int32), (if x ≤ v then x_X1_windSpeed_j34 k r v else x_X1_windSpeed_j34 k r x) = r (m_greater x v) (k + 1) := fun k r v x => by
      unfold m_greater x_X1_windSpeed_j34
      split <;> rfl
    simp only [spIter, x_X1_windSpeed_b13, spLet_x, hj]
    rw [if_neg (by decide), if_neg (by decide), if_neg (by decide), if_neg (by decide), if_pos (by decide)]
  have e2 : m_windNow zs = m_greater (m_greater (m_greater (m_greater 0 (zs 14)) (zs 15)) (zs 16)) (zs 17) := by
    unfold m_windNow
    simp only [spIter, m_windNow_b4, spLet_x]
    rw [if_neg (by decide), if_neg (by decide), if_neg (by decide), if_neg (by decide), if_pos (by decide)]
  have h0 : cs 0 = zs 17 := h 0 (by decide)
  have h1 : cs 1 = zs 16 := h 1 (by decide)
  have h2 : cs 2 = zs 15 := h 2 (by decide)
  have h3 : cs 3 = zs 14 := h 3 (by decide)
  rw [e1, e2, h0, h1, h2, h3]
  apply Int32.toInt_inj.mp
  simp only [greater_r]
  omega
theorem wind_r {zs : Nat → Int32} (h : mG zs) : 0 ≤ (m_windNow zs).toInt ∧ (m_windNow zs).toInt ≤ 1000 := by
  have e2 : m_windNow zs = m_greater (m_greater (m_greater (m_greater 0 (zs 14)) (zs 15)) (zs 16)) (zs 17) := by
    unfold m_windNow
    simp only [spIter, m_windNow_b4, spLet_x]
    rw [if_neg (by decide), if_neg (by decide), if_neg (by decide), if_neg (by decide), if_pos (by decide)]
  have b : ∀ k, 14 ≤ k → k < 18 → 0 ≤ (zs k).toInt ∧ (zs k).toInt ≤ 1000 := fun k h1 h2 => by
    have := h k (by omega)
    unfold mlo mhi at this
    simp (config := { decide := false }) only [show ¬ k = 0 by omega, show ¬ k = 1 by omega, show ¬ k = 2 by omega, show ¬ k = 3 by omega, show ¬ k = 4 by omega, show ¬ k = 5 by omega, show ¬ k = 6 by omega, show ¬ k = 7 by omega, show ¬ k = 8 by omega, show ¬ k = 9 by omega, show ¬ k = 10 by omega, show ¬ k = 11 by omega, show ¬ k = 12 by omega, show ¬ k = 13 by omega, show k < 18 by omega, show k < 144 by omega, if_true, if_false, or_self] at this
    exact this
  have b1 := b 14 (by omega) (by omega)
  have b2 := b 15 (by omega) (by omega)
  have b3 := b 16 (by omega) (by omega)
  have b4 := b 17 (by omega) (by omega)
  rw [e2]
  simp only [greater_r]
  have z : ((0 : Int32)).toInt = 0 := by decide
  omega
def mFac (zs : Nat → Int32) : Int32 := if (100 : Int32) < m_windNow zs then m_greater 0 (1000 - 2 * (m_windNow zs - 100)) else 1000
theorem fac_r {zs : Nat → Int32} (h : mG zs) : (mFac zs).toInt = max 0 (1000 - 2 * max 0 ((m_windNow zs).toInt - 100)) := by
  obtain ⟨w0, w1⟩ := wind_r h
  have z1 : ((100 : Int32)).toInt = 100 := by decide
  have z2 : ((1000 : Int32)).toInt = 1000 := by decide
  have z3 : ((2 : Int32)).toInt = 2 := by decide
  have z : ((0 : Int32)).toInt = 0 := by decide
  unfold mFac
  split
  · rename_i c
    have c2 := Int32.lt_iff_toInt_lt.mp c
    rw [greater_r, zsub z2 (zmul z3 (zsub rfl z1 (by omega) (by omega)) (by omega) (by omega)) (by omega) (by omega), z]
    omega
  · rename_i c
    have c2 : ¬ (100 : Int) < (m_windNow zs).toInt := fun k => c (Int32.lt_iff_toInt_lt.mpr (by rw [z1]; exact k))
    rw [z2]
    omega
theorem q_fac {cs zs : Nat → Int32} (h : ∀ k, k < 4 → cs k = zs (17 - k)) (hG : mG zs) : x_X1_windFactor cs = mFac zs := by
  obtain ⟨w0, w1⟩ := wind_r hG
  have z1 : ((100 : Int32)).toInt = 100 := by decide
  have z2 : ((1000 : Int32)).toInt = 1000 := by decide
  have z3 : ((2 : Int32)).toInt = 2 := by decide
  have z : ((0 : Int32)).toInt = 0 := by decide
  have hm : ∀ x : Int32, (if x < (0 : Int32) then (0 : Int32) else x) = m_greater 0 x := fun x => by rw [greater_sw]
  unfold x_X1_windFactor
  simp only [spLet_x, q_wind h, hm]
  apply Int32.toInt_inj.mp
  have e1 : (m_greater 0 (m_windNow zs - 100)).toInt = max 0 ((m_windNow zs).toInt - 100) := by rw [greater_r, zsub rfl z1 (by omega) (by omega), z]
  rw [fac_r hG, greater_r, z, zsub z2 (zmul z3 e1 (by omega) (by omega)) (by omega) (by omega)]
/-- near an outrigger: one arc, two ways to ask -/
theorem apart_e {s b : Int32} (s0 : 0 ≤ s.toInt) (s1 : s.toInt < 3600) (b0 : 0 ≤ b.toInt) (b1 : b.toInt < 3600) : (m_apart s b).toInt = min ((s.toInt - b.toInt + 3600) % 3600) (3600 - (s.toInt - b.toInt + 3600) % 3600) := by
  have z : ((3600 : Int32)).toInt = 3600 := by decide
  unfold m_apart
  simp only [spLet_x]
  have e := zrem (zadd (zsub (x := s) (y := b) rfl rfl (by omega) (by omega)) z (by omega) (by omega)) z (by omega) (by omega)
  rw [lesser_r, zsub z e (by omega) (by omega), e]
theorem clock_e {fr to : Int32} (h0 : 0 ≤ fr.toInt) (h1 : fr.toInt < 3600) (h2 : 0 ≤ to.toInt) (h3 : to.toInt < 3600) : (x_X8_clockwise fr to).toInt = (to.toInt - fr.toInt + 3600) % 3600 := by
  have z : ((3600 : Int32)).toInt = 3600 := by decide
  rw [cw_e]
  split
  · rename_i c
    have c2 := Int32.lt_iff_toInt_lt.mp c
    rw [zadd (zsub rfl rfl (by omega) (by omega)) z (by omega) (by omega)]
    omega
  · rename_i c
    have c2 : ¬ to.toInt < fr.toInt := fun k => c (Int32.lt_iff_toInt_lt.mpr k)
    rw [zsub rfl rfl (by omega) (by omega)]
    omega
abbrev nearP (s : Int) (k : Nat) : Prop := (s - (450 + 900 * (k : Int)) + 3600) % 3600 < 900 ∨ 2700 < (s - (450 + 900 * (k : Int)) + 3600) % 3600
theorem nk_i {k : Nat} (hk : k < 4) : (nI (450 + (900 * k))).toInt = 450 + 900 * (k : Int) := by rw [nI_toInt (by omega)]; omega
theorem tab_m {zs : Nat → Int32} {s : Int32} (s0 : 0 ≤ s.toInt) (s1 : s.toInt < 3600) (k : Nat) (hk : k < 4) (r : Int32 → Nat → Int32) (v : Int32) (hz : zs 10 = 0) : m_tableAt_b4 zs s r v k = r (if nearP s.toInt k then m_lesser v (zs (43 + k)) else v) (k + 1) := by
  have ek := nk_i hk
  have e := apart_e s0 s1 (b := nI (450 + (900 * k))) (by omega) (by omega)
  rw [ek] at e
  have z : ((900 : Int32)).toInt = 900 := by decide
  unfold m_tableAt_b4 m_tableAt_j55
  simp only [spLet_x]
  rw [if_neg (by omega), if_pos hz]
  by_cases c : (900 : Int32) ≤ m_apart s (nI (450 + (900 * k)))
  · have c2 := Int32.le_iff_toInt_le.mp c
    rw [z, e] at c2
    rw [if_pos c, if_neg (fun h => by unfold nearP at h; omega)]
  · have c2 : ¬ (900 : Int) ≤ min ((s.toInt - (450 + 900 * (k : Int)) + 3600) % 3600) (3600 - (s.toInt - (450 + 900 * (k : Int)) + 3600) % 3600) := fun h => c (Int32.le_iff_toInt_le.mpr (by rw [z, e]; exact h))
    rw [if_neg c, if_pos (by unfold nearP; omega)]
theorem tab_x {ce : Nat → Int32} {s : Int32} (s0 : 0 ≤ s.toInt) (s1 : s.toInt < 3600) (k : Nat) (hk : k < 4) (r : Int32 → Nat → Int32) (v : Int32) : x_X1_tableAt_b13 ce s r v k = r (if nearP s.toInt k then m_lesser (ce k) v else v) (k + 1) := by
  have ek := nk_i hk
  have e := clock_e (fr := nI (450 + (900 * k))) (to := s) (by omega) (by omega) s0 s1
  rw [ek] at e
  have z : ((900 : Int32)).toInt = 900 := by decide
  have z2 : ((2700 : Int32)).toInt = 2700 := by decide
  have z9 : ¬ ((1 : Int32) = 0) := by decide
  have hj : x_X1_tableAt_j53 ce v k r = r (m_lesser (ce k) v) (k + 1) := by
    unfold x_X1_tableAt_j53 x_X1_tableAt_j58 x_X1_tableAt_j82 m_lesser
    simp only [spLet_x]
    rw [if_neg z9]
    split <;> rfl
  have hj0 : x_X1_tableAt_j58 ce v k r 0 = r v (k + 1) := by
    unfold x_X1_tableAt_j58 x_X1_tableAt_j82
    rw [if_pos rfl]
  unfold x_X1_tableAt_b13
  simp only [spLet_x]
  rw [if_neg (by omega), hj, hj0]
  by_cases c : x_X8_clockwise (nI (450 + (900 * k))) s < (900 : Int32)
  · have c2 := Int32.lt_iff_toInt_lt.mp c
    rw [z, e] at c2
    rw [if_pos c, if_pos (show nearP s.toInt k from Or.inl c2)]
  · have c2 : ¬ ((s.toInt - (450 + 900 * (k : Int)) + 3600) % 3600 < 900) := fun h => c (Int32.lt_iff_toInt_lt.mpr (by rw [z, e]; exact h))
    rw [if_neg c]
    by_cases d : x_X8_clockwise (nI (450 + (900 * k))) s ≤ (2700 : Int32)
    · have d2 := Int32.le_iff_toInt_le.mp d
      rw [z2, e] at d2
      rw [if_pos d, if_neg (fun h => by unfold nearP at h; omega)]
    · have d2 : ¬ ((s.toInt - (450 + 900 * (k : Int)) + 3600) % 3600 ≤ 2700) := fun h => d (Int32.le_iff_toInt_le.mpr (by rw [z2, e]; exact h))
      rw [if_neg d, if_pos (by unfold nearP; omega)]
theorem q_table {ce zs : Nat → Int32} {s : Int32} (h : ∀ k, k < 4 → ce k = zs (43 + k)) (hG : mG zs) (s0 : 0 ≤ s.toInt) (s1 : s.toInt < 3600) : x_X1_tableAt (zs 10) ce s = m_tableAt zs s := by
  have o0 := hG.outr (k := 0) (by decide)
  have o1 := hG.outr (k := 1) (by decide)
  have o2 := hG.outr (k := 2) (by decide)
  have o3 := hG.outr (k := 3) (by decide)
  have z2 : ((2 : Int32)).toInt = 2 := by decide
  have z3 : ((3 : Int32)).toInt = 3 := by decide
  unfold x_X1_tableAt m_tableAt
  by_cases hz : zs 10 = 0
  · rw [if_pos hz]
    show x_X1_tableAt_b13 ce s (x_X1_tableAt_b13 ce s (x_X1_tableAt_b13 ce s (x_X1_tableAt_b13 ce s (x_X1_tableAt_b13 ce s (fun _ _ => default))))) 2 0 = m_tableAt_b4 zs s (m_tableAt_b4 zs s (m_tableAt_b4 zs s (m_tableAt_b4 zs s (m_tableAt_b4 zs s (fun _ _ => default))))) 3 0
    rw [tab_x s0 s1 0 (by decide), tab_x s0 s1 1 (by decide), tab_x s0 s1 2 (by decide), tab_x s0 s1 3 (by decide), tab_m s0 s1 0 (by decide) _ _ hz, tab_m s0 s1 1 (by decide) _ _ hz, tab_m s0 s1 2 (by decide) _ _ hz, tab_m s0 s1 3 (by decide) _ _ hz]
    have ex : ∀ (r : Int32 → Nat → Int32) (v : Int32), x_X1_tableAt_b13 ce s r v 4 = v := fun r v => by unfold x_X1_tableAt_b13; rw [if_pos (by decide)]
    have em : ∀ (r : Int32 → Nat → Int32) (v : Int32), m_tableAt_b4 zs s r v 4 = v := fun r v => by unfold m_tableAt_b4; rw [if_pos (by decide)]
    rw [ex, em, h 0 (by decide), h 1 (by decide), h 2 (by decide), h 3 (by decide)]
    apply Int32.toInt_inj.mp
    have hn : nearP s.toInt 0 ∨ nearP s.toInt 1 ∨ nearP s.toInt 2 ∨ nearP s.toInt 3 := by unfold nearP; omega
    by_cases n0 : nearP s.toInt 0 <;> by_cases n1 : nearP s.toInt 1 <;> by_cases n2 : nearP s.toInt 2 <;> by_cases n3 : nearP s.toInt 3 <;> simp only [n0, n1, n2, n3, if_true, if_false, lesser_r, z2, z3] <;> first | omega | (exfalso; simp only [n0, n1, n2, n3, or_self] at hn)
  · rw [if_neg hz]
    show (3 : Int32) = m_tableAt_b4 zs s _ 3 0
    unfold m_tableAt_b4
    rw [if_neg (by decide), if_neg hz]

/-! both sides' numbers: capacities between the places of a table -/
theorem rad_b : ∀ j, j < 5 → 300 ≤ (tRad j).toInt ∧ (tRad j).toInt < (tRad (j + 1)).toInt ∧ (tRad (j + 1)).toInt ≤ 3000 ∧ (tRad (j + 1)).toInt - (tRad j).toInt ≤ 800 := by decide
theorem len_b : ∀ i, i < 3 → 1000 ≤ (tLen i).toInt ∧ (tLen i).toInt < (tLen (i + 1)).toInt ∧ (tLen (i + 1)).toInt ≤ 6000 := by decide
theorem col_t : ∀ j, j < 6 → m_columnRadius (nI j) = tRad j := by decide
theorem row_t : ∀ i, i < 4 → m_rowLength (nI i) = tLen i := by decide
/-- the value between four places -/
def bil (V : Nat → Nat → Int) (r le : Int) (i j : Nat) : Int :=
  ((V i j * ((tRad (j + 1)).toInt - r) + V i (j + 1) * (r - (tRad j).toInt)) * ((tLen (i + 1)).toInt - le) + (V (i + 1) j * ((tRad (j + 1)).toInt - r) + V (i + 1) (j + 1) * (r - (tRad j).toInt)) * (le - (tLen i).toInt)) / (((tRad (j + 1)).toInt - (tRad j).toInt) * ((tLen (i + 1)).toInt - (tLen i).toInt))
def inC (r : Int) (j : Nat) : Prop := j < 5 ∧ (tRad j).toInt ≤ r ∧ r ≤ (tRad (j + 1)).toInt
def inR (le : Int) (i : Nat) : Prop := i < 3 ∧ (tLen i).toInt ≤ le ∧ le ≤ (tLen (i + 1)).toInt
theorem bil_c {V : Nat → Nat → Int} {r le : Int} {i j : Nat} (hi : i < 3) (hj : j + 1 < 5) (hr : r = (tRad (j + 1)).toInt) : bil V r le i j = bil V r le i (j + 1) := by
  have b1 := rad_b j (by omega)
  have b2 := rad_b (j + 1) (by omega)
  have b3 := len_b i hi
  unfold bil
  rw [hr]
  have e1 : (V i j * ((tRad (j + 1)).toInt - (tRad (j + 1)).toInt) + V i (j + 1) * ((tRad (j + 1)).toInt - (tRad j).toInt)) * ((tLen (i + 1)).toInt - le) + (V (i + 1) j * ((tRad (j + 1)).toInt - (tRad (j + 1)).toInt) + V (i + 1) (j + 1) * ((tRad (j + 1)).toInt - (tRad j).toInt)) * (le - (tLen i).toInt) = ((tRad (j + 1)).toInt - (tRad j).toInt) * (V i (j + 1) * ((tLen (i + 1)).toInt - le) + V (i + 1) (j + 1) * (le - (tLen i).toInt)) := by
    rw [Int.sub_self, Int.mul_zero, Int.zero_add, Int.mul_zero, Int.zero_add, Int.mul_add, Int.mul_comm (V i (j + 1)), Int.mul_comm (V (i + 1) (j + 1)) ((tRad (j + 1)).toInt - (tRad j).toInt), Int.mul_assoc, Int.mul_assoc]
  have e2 : (V i (j + 1) * ((tRad (j + 1 + 1)).toInt - (tRad (j + 1)).toInt) + V i (j + 1 + 1) * ((tRad (j + 1)).toInt - (tRad (j + 1)).toInt)) * ((tLen (i + 1)).toInt - le) + (V (i + 1) (j + 1) * ((tRad (j + 1 + 1)).toInt - (tRad (j + 1)).toInt) + V (i + 1) (j + 1 + 1) * ((tRad (j + 1)).toInt - (tRad (j + 1)).toInt)) * (le - (tLen i).toInt) = ((tRad (j + 1 + 1)).toInt - (tRad (j + 1)).toInt) * (V i (j + 1) * ((tLen (i + 1)).toInt - le) + V (i + 1) (j + 1) * (le - (tLen i).toInt)) := by
    rw [Int.sub_self, Int.mul_zero, Int.add_zero, Int.mul_zero, Int.add_zero, Int.mul_add, Int.mul_comm (V i (j + 1)), Int.mul_comm (V (i + 1) (j + 1)) ((tRad (j + 1 + 1)).toInt - (tRad (j + 1)).toInt), Int.mul_assoc, Int.mul_assoc]
  rw [e1, e2, Int.mul_ediv_mul_of_pos _ _ (by omega), Int.mul_ediv_mul_of_pos _ _ (by omega)]
theorem bil_r {V : Nat → Nat → Int} {r le : Int} {i j : Nat} (hi : i + 1 < 3) (hj : j < 5) (hl : le = (tLen (i + 1)).toInt) : bil V r le i j = bil V r le (i + 1) j := by
  have b1 := len_b i (by omega)
  have b2 := len_b (i + 1) (by omega)
  have b3 := rad_b j hj
  unfold bil
  rw [hl]
  rw [Int.sub_self ((tLen (i + 1)).toInt), Int.mul_zero, Int.zero_add, Int.mul_zero, Int.add_zero, Int.mul_ediv_mul_of_pos_left _ _ (by omega), Int.mul_ediv_mul_of_pos_left _ _ (by omega)]
theorem inC_u {r : Int} {j k : Nat} (h1 : inC r j) (h2 : inC r k) (hjk : j < k) : k = j + 1 ∧ r = (tRad (j + 1)).toInt := by
  obtain ⟨a1, a2, a3⟩ := h1
  obtain ⟨b1, b2, b3⟩ := h2
  have t0 : (tRad 0).toInt = 300 := by decide
  have t1 : (tRad 1).toInt = 600 := by decide
  have t2 : (tRad 2).toInt = 1000 := by decide
  have t3 : (tRad 3).toInt = 1500 := by decide
  have t4 : (tRad 4).toInt = 2200 := by decide
  have t5 : (tRad 5).toInt = 3000 := by decide
  rcases (show j = 0 ∨ j = 1 ∨ j = 2 ∨ j = 3 by omega) with rfl | rfl | rfl | rfl <;> rcases (show k = 1 ∨ k = 2 ∨ k = 3 ∨ k = 4 by omega) with rfl | rfl | rfl | rfl <;> simp only [Nat.zero_add, Nat.reduceAdd, t0, t1, t2, t3, t4, t5, true_and] at a2 a3 b2 b3 ⊢ <;> omega
theorem inR_u {r : Int} {j k : Nat} (h1 : inR r j) (h2 : inR r k) (hjk : j < k) : k = j + 1 ∧ r = (tLen (j + 1)).toInt := by
  obtain ⟨a1, a2, a3⟩ := h1
  obtain ⟨b1, b2, b3⟩ := h2
  have t0 : (tLen 0).toInt = 1000 := by decide
  have t1 : (tLen 1).toInt = 2000 := by decide
  have t2 : (tLen 2).toInt = 3500 := by decide
  have t3 : (tLen 3).toInt = 6000 := by decide
  rcases (show j = 0 ∨ j = 1 by omega) with rfl | rfl <;> rcases (show k = 1 ∨ k = 2 by omega) with rfl | rfl <;> simp only [Nat.zero_add, Nat.reduceAdd, t0, t1, t2, t3, true_and] at a2 a3 b2 b3 ⊢ <;> omega
theorem bil_u {V : Nat → Nat → Int} {r le : Int} {i j a b : Nat} (h1 : inC r j) (h2 : inR le i) (h3 : inC r b) (h4 : inR le a) : bil V r le i j = bil V r le a b := by
  have ec : bil V r le i j = bil V r le i b := by
    rcases Nat.lt_trichotomy j b with h | h | h
    · obtain ⟨e1, e2⟩ := inC_u h1 h3 h
      rw [e1]
      exact bil_c h2.1 (by have := h3.1; omega) e2
    · rw [h]
    · obtain ⟨e1, e2⟩ := inC_u h3 h1 h
      rw [e1]
      exact (bil_c h2.1 (by have := h1.1; omega) e2).symm
  rw [ec]
  rcases Nat.lt_trichotomy i a with h | h | h
  · obtain ⟨e1, e2⟩ := inR_u h2 h4 h
    rw [e1]
    exact bil_r (by have := h4.1; omega) h3.1 e2
  · rw [h]
  · obtain ⟨e1, e2⟩ := inR_u h4 h2 h
    rw [e1]
    exact (bil_r (by have := h2.1; omega) h3.1 e2).symm
/-- the longs of both sides: a sum of two products over a product -/
theorem bil_l {p q s t u v w x : Int32} {P Q S T U V W X : Int} (hp : p.toInt = P) (hq : q.toInt = Q) (hs : s.toInt = S) (ht : t.toInt = T) (hu : u.toInt = U) (hv : v.toInt = V) (hw : w.toInt = W) (hx : x.toInt = X) (p0 : 0 ≤ P ∧ P ≤ 100000) (q0 : 0 ≤ Q ∧ Q ≤ 100000) (s0 : 0 ≤ S ∧ S ≤ 100000) (t0 : 0 ≤ T ∧ T ≤ 100000) (u0 : 0 ≤ U ∧ U ≤ 800) (v0 : 0 ≤ V ∧ V ≤ 800) (w0 : 0 ≤ W ∧ W ≤ 5000) (x0 : 0 ≤ X ∧ X ≤ 5000) {b : Int64} {B : Int} (hb : b.toInt = B) (b0 : 0 < B) :
    ∃ N : Int, N = (P * U + Q * V) * W + (S * U + T * V) * X ∧ 0 ≤ N ∧ N ≤ 100000 * ((U + V) * (W + X)) ∧ (((p.toInt64 * u.toInt64 + q.toInt64 * v.toInt64) * w.toInt64 + (s.toInt64 * u.toInt64 + t.toInt64 * v.toInt64) * x.toInt64) / b).toInt = N / B := by
  obtain ⟨pu0, pu1⟩ := mulb p0.1 p0.2 u0.1 u0.2
  obtain ⟨qv0, qv1⟩ := mulb q0.1 q0.2 v0.1 v0.2
  obtain ⟨su0, su1⟩ := mulb s0.1 s0.2 u0.1 u0.2
  obtain ⟨tv0, tv1⟩ := mulb t0.1 t0.2 v0.1 v0.2
  have pu2 : P * U ≤ 100000 * U := Int.mul_le_mul_of_nonneg_right p0.2 u0.1
  have qv2 : Q * V ≤ 100000 * V := Int.mul_le_mul_of_nonneg_right q0.2 v0.1
  have su2 : S * U ≤ 100000 * U := Int.mul_le_mul_of_nonneg_right s0.2 u0.1
  have tv2 : T * V ≤ 100000 * V := Int.mul_le_mul_of_nonneg_right t0.2 v0.1
  have e1 : (p.toInt64 * u.toInt64 + q.toInt64 * v.toInt64).toInt = P * U + Q * V := ladd' (lmul' (zi2l hp) (zi2l hu) (by omega) (by omega)) (lmul' (zi2l hq) (zi2l hv) (by omega) (by omega)) (by omega) (by omega)
  have e2 : (s.toInt64 * u.toInt64 + t.toInt64 * v.toInt64).toInt = S * U + T * V := ladd' (lmul' (zi2l hs) (zi2l hu) (by omega) (by omega)) (lmul' (zi2l ht) (zi2l hv) (by omega) (by omega)) (by omega) (by omega)
  obtain ⟨a0, a1⟩ := mulb (a := P * U + Q * V) (A := 160000000) (by omega) (by omega) w0.1 w0.2
  obtain ⟨c0, c1⟩ := mulb (a := S * U + T * V) (A := 160000000) (by omega) (by omega) x0.1 x0.2
  have e3 := ladd' (lmul' e1 (zi2l hw) (by omega) (by omega)) (lmul' e2 (zi2l hx) (by omega) (by omega)) (by omega) (by omega)
  have m1 : (P * U + Q * V) * W ≤ (100000 * (U + V)) * W := Int.mul_le_mul_of_nonneg_right (by omega) w0.1
  have m2 : (S * U + T * V) * X ≤ (100000 * (U + V)) * X := Int.mul_le_mul_of_nonneg_right (by omega) x0.1
  refine ⟨_, rfl, by omega, ?_, ldiv' e3 hb (by omega) b0⟩
  have m3 : 100000 * ((U + V) * (W + X)) = (100000 * (U + V)) * W + (100000 * (U + V)) * X := by rw [← Int.mul_assoc, Int.mul_add]
  omega
/-- a table's place -/
def tV (zs : Nat → Int32) (t i j : Nat) : Int := (zs (47 + 24 * t + 6 * i + j)).toInt
theorem mlh_tab : ∀ k, k < 143 → 47 ≤ k → mlo k = 0 ∧ mhi k = 100000 := by decide +kernel
theorem tV_b {zs : Nat → Int32} (h : mG zs) {t i j : Nat} (ht : t < 4) (hi : i < 4) (hj : j < 6) : 0 ≤ tV zs t i j ∧ tV zs t i j ≤ 100000 := by
  have h1 := h (47 + 24 * t + 6 * i + j) (by omega)
  obtain ⟨h2, h3⟩ := mlh_tab (47 + 24 * t + 6 * i + j) (by omega) (by omega)
  unfold tV
  omega

/-! both sides' numbers: capacity, rated capacity, utilization -/
theorem cap_N {N B W D : Int} (h1 : 0 ≤ N) (h2 : N ≤ 100000 * (W * D)) (hB : B = W * D) (h0 : 0 < B) : 0 ≤ N / B ∧ N / B ≤ 100000 := by
  refine ⟨Int.ediv_nonneg h1 (by omega), ?_⟩
  rw [hB] at h0 ⊢
  exact Int.ediv_le_of_le_mul h0 h2
theorem j71_e {zs : Nat → Int32} (h : mG zs) {ta le r : Int32} {i j : Nat} (ht : ta.toNatClampNeg < 4) (hj : inC r.toInt j) (hi : inR le.toInt i) : (m_capacityOf_j71 zs ta le r i j).toInt = bil (tV zs ta.toNatClampNeg) r.toInt le.toInt i j ∧ 0 ≤ bil (tV zs ta.toNatClampNeg) r.toInt le.toInt i j ∧ bil (tV zs ta.toNatClampNeg) r.toInt le.toInt i j ≤ 100000 := by
  obtain ⟨j5, j1, j2⟩ := hj
  obtain ⟨i3, i1, i2⟩ := hi
  have b1 := rad_b j j5
  have b2 := len_b i i3
  have eB : ((tRad (j + 1) - tRad j).toInt64 * (tLen (i + 1) - tLen i).toInt64).toInt = ((tRad (j + 1)).toInt - (tRad j).toInt) * ((tLen (i + 1)).toInt - (tLen i).toInt) := by
    obtain ⟨m1, m2⟩ := mulb (a := (tRad (j + 1)).toInt - (tRad j).toInt) (A := 800) (b := (tLen (i + 1)).toInt - (tLen i).toInt) (B := 5000) (by omega) (by omega) (by omega) (by omega)
    exact lmul' (zi2l (zsub rfl rfl (by omega) (by omega))) (zi2l (zsub rfl rfl (by omega) (by omega))) (by omega) (by omega)
  have hB0 : 0 < ((tRad (j + 1)).toInt - (tRad j).toInt) * ((tLen (i + 1)).toInt - (tLen i).toInt) := Int.mul_pos (by omega) (by omega)
  obtain ⟨N, hN, n0, n1, eN⟩ := bil_l (p := zs (47 + 24 * ta.toNatClampNeg + 6 * i + j)) (q := zs (47 + 24 * ta.toNatClampNeg + 6 * i + (j + 1))) (s := zs (47 + 24 * ta.toNatClampNeg + 6 * (i + 1) + j)) (t := zs (47 + 24 * ta.toNatClampNeg + 6 * (i + 1) + (j + 1))) (u := tRad (j + 1) - r) (v := r - tRad j) (w := tLen (i + 1) - le) (x := le - tLen i)
    rfl rfl rfl rfl (zsub rfl rfl (by omega) (by omega)) (zsub rfl rfl (by omega) (by omega)) (zsub rfl rfl (by omega) (by omega)) (zsub rfl rfl (by omega) (by omega))
    (tV_b h ht (by omega) (by omega)) (tV_b h ht (by omega) (by omega)) (tV_b h ht (by omega) (by omega)) (tV_b h ht (by omega) (by omega)) (by omega) (by omega) (by omega) (by omega) eB hB0
  have en : N / (((tRad (j + 1)).toInt - (tRad j).toInt) * ((tLen (i + 1)).toInt - (tLen i).toInt)) = bil (tV zs ta.toNatClampNeg) r.toInt le.toInt i j := by rw [hN]; rfl
  have h9 := cap_N (B := ((tRad (j + 1)).toInt - (tRad j).toInt) * ((tLen (i + 1)).toInt - (tLen i).toInt)) n0 n1 (by
    rw [show (tRad (j + 1)).toInt - r.toInt + (r.toInt - (tRad j).toInt) = (tRad (j + 1)).toInt - (tRad j).toInt by omega, show (tLen (i + 1)).toInt - le.toInt + (le.toInt - (tLen i).toInt) = (tLen (i + 1)).toInt - (tLen i).toInt by omega]) hB0
  rw [en] at h9 eN
  refine ⟨?_, h9.1, h9.2⟩
  unfold m_capacityOf_j71
  simp only [spLet_x, m_valueAt]
  rw [col_t j (by omega), col_t (j + 1) (by omega), row_t i (by omega), row_t (i + 1) (by omega)]
  exact zl2i eN (by omega) (by omega)
theorem capM_i (zs : Nat → Int32) (ta le r : Int32) : spIter (fun _ => default) (m_capacityOf_b21 zs ta le r) 3 0 = if le ≤ 2000 then m_capacityOf_j44 zs ta le r 0 else if le ≤ 3500 then m_capacityOf_j44 zs ta le r 1 else m_capacityOf_j44 zs ta le r 2 := by
  simp only [spIter, m_capacityOf_b21, spLet_x]
  rw [if_neg (show ¬ 2 ≤ 0 by decide), if_neg (show ¬ 2 ≤ 0 + 1 by decide), if_pos (show 2 ≤ 0 + 1 + 1 by decide)]
  rfl
theorem capM_j (zs : Nat → Int32) (ta le r : Int32) (i : Nat) : m_capacityOf_j44 zs ta le r i = if r ≤ 600 then m_capacityOf_j71 zs ta le r i 0 else if r ≤ 1000 then m_capacityOf_j71 zs ta le r i 1 else if r ≤ 1500 then m_capacityOf_j71 zs ta le r i 2 else if r ≤ 2200 then m_capacityOf_j71 zs ta le r i 3 else m_capacityOf_j71 zs ta le r i 4 := by
  unfold m_capacityOf_j44
  simp only [spIter, m_capacityOf_b47, spLet_x]
  rw [if_neg (show ¬ 4 ≤ 0 by decide), if_neg (show ¬ 4 ≤ 0 + 1 by decide), if_neg (show ¬ 4 ≤ 0 + 1 + 1 by decide), if_neg (show ¬ 4 ≤ 0 + 1 + 1 + 1 by decide), if_pos (show 4 ≤ 0 + 1 + 1 + 1 + 1 by decide)]
  rfl
theorem le_i {a b : Int32} {n : Int} (hb : b.toInt = n) : (a ≤ b) ↔ a.toInt ≤ n := by rw [Int32.le_iff_toInt_le, hb]
theorem lt_i {a b : Int32} {n : Int} (hb : b.toInt = n) : (a < b) ↔ a.toInt < n := by rw [Int32.lt_iff_toInt_lt, hb]
theorem i_lt {a b : Int32} {n : Int} (hb : b.toInt = n) : (b < a) ↔ n < a.toInt := by rw [Int32.lt_iff_toInt_lt, hb]
theorem i_le {a b : Int32} {n : Int} (hb : b.toInt = n) : (b ≤ a) ↔ n ≤ a.toInt := by rw [Int32.le_iff_toInt_le, hb]
theorem inC_n {r : Int} {j : Nat} {a b : Int} (hj : j < 5) (ha : (tRad j).toInt = a) (hb : (tRad (j + 1)).toInt = b) (h1 : a ≤ r) (h2 : r ≤ b) : inC r j := ⟨hj, by omega, by omega⟩
theorem inR_n {r : Int} {j : Nat} {a b : Int} (hj : j < 3) (ha : (tLen j).toInt = a) (hb : (tLen (j + 1)).toInt = b) (h1 : a ≤ r) (h2 : r ≤ b) : inR r j := ⟨hj, by omega, by omega⟩
theorem capM (zs : Nat → Int32) (ta le r : Int32) (l0 : 1000 ≤ le.toInt) (l1 : le.toInt ≤ 6000) (r0 : 300 ≤ r.toInt) (r1 : r.toInt ≤ 3000) : ∃ i j, inR le.toInt i ∧ inC r.toInt j ∧ spIter (fun _ => default) (m_capacityOf_b21 zs ta le r) 3 0 = m_capacityOf_j71 zs ta le r i j := by
  have hi : ∃ i, inR le.toInt i ∧ spIter (fun _ => default) (m_capacityOf_b21 zs ta le r) 3 0 = m_capacityOf_j44 zs ta le r i := by
    rw [capM_i]
    by_cases c1 : le ≤ 2000
    · have d1 := (le_i (show ((2000 : Int32)).toInt = 2000 by decide)).mp c1
      rw [if_pos c1]
      exact ⟨0, inR_n (by decide) (a := 1000) (b := 2000) (by decide) (by decide) (by omega) (by omega), rfl⟩
    · have d1 := mt (le_i (show ((2000 : Int32)).toInt = 2000 by decide)).mpr c1
      rw [if_neg c1]
      by_cases c2 : le ≤ 3500
      · have d2 := (le_i (show ((3500 : Int32)).toInt = 3500 by decide)).mp c2
        rw [if_pos c2]
        exact ⟨1, inR_n (by decide) (a := 2000) (b := 3500) (by decide) (by decide) (by omega) (by omega), rfl⟩
      · have d2 := mt (le_i (show ((3500 : Int32)).toInt = 3500 by decide)).mpr c2
        rw [if_neg c2]
        exact ⟨2, inR_n (by decide) (a := 3500) (b := 6000) (by decide) (by decide) (by omega) (by omega), rfl⟩
  obtain ⟨i, h1, h2⟩ := hi
  refine ⟨i, ?_⟩
  rw [h2, capM_j]
  by_cases c1 : r ≤ 600
  · have d1 := (le_i (show ((600 : Int32)).toInt = 600 by decide)).mp c1
    rw [if_pos c1]
    exact ⟨0, h1, inC_n (by decide) (a := 300) (b := 600) (by decide) (by decide) (by omega) (by omega), rfl⟩
  · have d1 := mt (le_i (show ((600 : Int32)).toInt = 600 by decide)).mpr c1
    rw [if_neg c1]
    by_cases c2 : r ≤ 1000
    · have d2 := (le_i (show ((1000 : Int32)).toInt = 1000 by decide)).mp c2
      rw [if_pos c2]
      exact ⟨1, h1, inC_n (by decide) (a := 600) (b := 1000) (by decide) (by decide) (by omega) (by omega), rfl⟩
    · have d2 := mt (le_i (show ((1000 : Int32)).toInt = 1000 by decide)).mpr c2
      rw [if_neg c2]
      by_cases c3 : r ≤ 1500
      · have d3 := (le_i (show ((1500 : Int32)).toInt = 1500 by decide)).mp c3
        rw [if_pos c3]
        exact ⟨2, h1, inC_n (by decide) (a := 1000) (b := 1500) (by decide) (by decide) (by omega) (by omega), rfl⟩
      · have d3 := mt (le_i (show ((1500 : Int32)).toInt = 1500 by decide)).mpr c3
        rw [if_neg c3]
        by_cases c4 : r ≤ 2200
        · have d4 := (le_i (show ((2200 : Int32)).toInt = 2200 by decide)).mp c4
          rw [if_pos c4]
          exact ⟨3, h1, inC_n (by decide) (a := 1500) (b := 2200) (by decide) (by decide) (by omega) (by omega), rfl⟩
        · have d4 := mt (le_i (show ((2200 : Int32)).toInt = 2200 by decide)).mpr c4
          rw [if_neg c4]
          exact ⟨4, h1, inC_n (by decide) (a := 2200) (b := 3000) (by decide) (by decide) (by omega) (by omega), rfl⟩
theorem g300 {ra : Int32} (h : ra ≤ 3000) : (m_greater 300 ra).toInt = max 300 ra.toInt ∧ 300 ≤ (m_greater 300 ra).toInt ∧ (m_greater 300 ra).toInt ≤ 3000 := by
  have e : ((300 : Int32)).toInt = 300 := by decide
  have h2 := (le_i (show ((3000 : Int32)).toInt = 3000 by decide)).mp h
  rw [greater_r, e]
  omega
/-- the class's place in the rows -/
theorem bel_L {le : Int32} (l0 : 1000 ≤ le.toInt) (l1 : le.toInt ≤ 6000) : ∃ i, inR le.toInt i ∧ x_X1_belowL le = nI i := by
  rw [belowL_e]
  by_cases c1 : le < 3500
  · have d1 := (lt_i (show ((3500 : Int32)).toInt = 3500 by decide)).mp c1
    rw [if_pos c1]
    by_cases c2 : le < 2000
    · have d2 := (lt_i (show ((2000 : Int32)).toInt = 2000 by decide)).mp c2
      rw [if_pos c2]
      exact ⟨0, inR_n (by decide) (a := 1000) (b := 2000) (by decide) (by decide) (by omega) (by omega), rfl⟩
    · have d2 := mt (lt_i (show ((2000 : Int32)).toInt = 2000 by decide)).mpr c2
      rw [if_neg c2]
      exact ⟨1, inR_n (by decide) (a := 2000) (b := 3500) (by decide) (by decide) (by omega) (by omega), rfl⟩
  · have d1 := mt (lt_i (show ((3500 : Int32)).toInt = 3500 by decide)).mpr c1
    rw [if_neg c1]
    exact ⟨2, inR_n (by decide) (a := 3500) (b := 6000) (by decide) (by decide) (by omega) (by omega), rfl⟩
theorem bel_R {ra : Int32} (h : ra ≤ 3000) : ∃ j, inC (m_greater 300 ra).toInt j ∧ x_X1_belowR ra = nI j := by
  obtain ⟨e, r0, r1⟩ := g300 h
  rw [belowR_e]
  by_cases c1 : ra < 2200
  · have d1 := (lt_i (show ((2200 : Int32)).toInt = 2200 by decide)).mp c1
    rw [if_pos c1]
    by_cases c2 : ra < 1500
    · have d2 := (lt_i (show ((1500 : Int32)).toInt = 1500 by decide)).mp c2
      rw [if_pos c2]
      by_cases c3 : ra < 1000
      · have d3 := (lt_i (show ((1000 : Int32)).toInt = 1000 by decide)).mp c3
        rw [if_pos c3]
        by_cases c4 : ra < 600
        · have d4 := (lt_i (show ((600 : Int32)).toInt = 600 by decide)).mp c4
          rw [if_pos c4]
          exact ⟨0, inC_n (by decide) (a := 300) (b := 600) (by decide) (by decide) (by omega) (by omega), rfl⟩
        · have d4 := mt (lt_i (show ((600 : Int32)).toInt = 600 by decide)).mpr c4
          rw [if_neg c4]
          exact ⟨1, inC_n (by decide) (a := 600) (b := 1000) (by decide) (by decide) (by omega) (by omega), rfl⟩
      · have d3 := mt (lt_i (show ((1000 : Int32)).toInt = 1000 by decide)).mpr c3
        rw [if_neg c3]
        exact ⟨2, inC_n (by decide) (a := 1000) (b := 1500) (by decide) (by decide) (by omega) (by omega), rfl⟩
    · have d2 := mt (lt_i (show ((1500 : Int32)).toInt = 1500 by decide)).mpr c2
      rw [if_neg c2]
      exact ⟨3, inC_n (by decide) (a := 1500) (b := 2200) (by decide) (by decide) (by omega) (by omega), rfl⟩
  · have d1 := mt (lt_i (show ((2200 : Int32)).toInt = 2200 by decide)).mpr c1
    rw [if_neg c1]
    exact ⟨4, inC_n (by decide) (a := 2200) (b := 3000) (by decide) (by decide) (by omega) (by omega), rfl⟩
theorem x_val {cv zs : Nat → Int32} (h : ∀ k, k < 96 → cv k = zs (47 + k)) {t i j : Nat} (ht : t < 4) (hi : i < 4) (hj : j < 6) : x_X1_valueAt cv (nI t) (nI i) (nI j) = zs (47 + 24 * t + 6 * i + j) := by
  have e : (nI t * (24 : Int32)) + (nI i * (6 : Int32)) + nI j = nI (t * 24 + i * 6 + j) := by
    rw [show (24 : Int32) = nI 24 from rfl, show (6 : Int32) = nI 6 from rfl]
    exact nadd (nadd (nmul rfl rfl) (nmul rfl rfl)) rfl
  unfold x_X1_valueAt
  rw [spLet_x, e]
  have z : ((0 : Int32)).toInt = 0 := by decide
  have z2 : ((96 : Int32)).toInt = 96 := by decide
  have e2 := nI_toInt (n := t * 24 + i * 6 + j) (by omega)
  rw [if_neg (fun k => by have := (lt_i z).mp k; omega), if_neg (fun k => by have := (i_le z2).mp k; omega), nI_clamp (by omega), h _ (by omega)]
  congr 1
  omega
theorem q_cap {cv zs : Nat → Int32} (h : ∀ k, k < 96 → cv k = zs (47 + k)) (hG : mG zs) {ta le ra : Int32} (ht : ta = nI ta.toNatClampNeg) (ht4 : ta.toNatClampNeg < 4) (l0 : 1000 ≤ le.toInt) (l1 : le.toInt ≤ 6000) : x_X1_capacityAt cv ta le ra = m_capacityOf zs ta le ra ∧ 0 ≤ (m_capacityOf zs ta le ra).toInt ∧ (m_capacityOf zs ta le ra).toInt ≤ 100000 := by
  have z0 : ((0 : Int32)).toInt = 0 := by decide
  unfold x_X1_capacityAt m_capacityOf
  by_cases c : ra ≤ 3000
  · rw [if_pos c, if_pos c, spLet_x (m_greater 300 ra)]
    obtain ⟨er, r0, r1⟩ := g300 c
    obtain ⟨i, j, hi, hj, em⟩ := capM zs ta le (m_greater 300 ra) l0 l1 r0 r1
    obtain ⟨e1, b0, b1⟩ := j71_e hG ht4 hj hi
    obtain ⟨a, ha, ea⟩ := bel_L l0 l1
    obtain ⟨b, hb, eb⟩ := bel_R c
    rw [em]
    refine ⟨?_, by rw [e1]; exact b0, by rw [e1]; exact b1⟩
    have eu := bil_u (V := tV zs ta.toNatClampNeg) hj hi hb ha
    obtain ⟨f1, -, -⟩ := j71_e hG ht4 hb ha
    have hd : x_X1_capacityAt cv ta le ra = m_capacityOf_j71 zs ta le (m_greater 300 ra) a b := by
      obtain ⟨j5, j1, j2⟩ := hb
      obtain ⟨i3, i1, i2⟩ := ha
      have b1 := rad_b b j5
      have b2 := len_b a i3
      have eB : ((tRad (b + 1) - tRad b).toInt64 * (tLen (a + 1) - tLen a).toInt64).toInt = ((tRad (b + 1)).toInt - (tRad b).toInt) * ((tLen (a + 1)).toInt - (tLen a).toInt) := by
        obtain ⟨m1, m2⟩ := mulb (a := (tRad (b + 1)).toInt - (tRad b).toInt) (A := 800) (b := (tLen (a + 1)).toInt - (tLen a).toInt) (B := 5000) (by omega) (by omega) (by omega) (by omega)
        exact lmul' (zi2l (zsub rfl rfl (by omega) (by omega))) (zi2l (zsub rfl rfl (by omega) (by omega))) (by omega) (by omega)
      have hB0 : 0 < ((tRad (b + 1)).toInt - (tRad b).toInt) * ((tLen (a + 1)).toInt - (tLen a).toInt) := Int.mul_pos (by omega) (by omega)
      have hc : 0 < lg_cmp ((tRad (b + 1) - tRad b).toInt64 * (tLen (a + 1) - tLen a).toInt64) 0 := (lg_cmp_gt _ _).mpr (Int64.lt_iff_toInt_lt.mpr (by rw [eB]; exact hB0))
      have es : (tRad (b + 1) - tRad b) - (m_greater 300 ra - tRad b) = tRad (b + 1) - m_greater 300 ra := by
        apply Int32.toInt_inj.mp
        rw [zsub (zsub rfl rfl (by omega) (by omega)) (zsub rfl rfl (by omega) (by omega)) (by omega) (by omega), zsub rfl rfl (by omega) (by omega)]
        omega
      have es2 : (tLen (a + 1) - tLen a) - (le - tLen a) = tLen (a + 1) - le := by
        apply Int32.toInt_inj.mp
        rw [zsub (zsub rfl rfl (by omega) (by omega)) (zsub rfl rfl (by omega) (by omega)) (by omega) (by omega), zsub rfl rfl (by omega) (by omega)]
        omega
      have em : (if ra < (300 : Int32) then (300 : Int32) else ra) = m_greater 300 ra := (greater_sw 300 ra).symm
      have v00 := x_val h (t := ta.toNatClampNeg) (i := a) (j := b) ht4 (by omega) (by omega)
      have v01 := x_val h (t := ta.toNatClampNeg) (i := a) (j := b + 1) ht4 (by omega) (by omega)
      have v10 := x_val h (t := ta.toNatClampNeg) (i := a + 1) (j := b) ht4 (by omega) (by omega)
      have v11 := x_val h (t := ta.toNatClampNeg) (i := a + 1) (j := b + 1) ht4 (by omega) (by omega)
      rw [← ht] at v00 v01 v10 v11
      unfold x_X1_capacityAt m_capacityOf_j71
      simp only [spLet_x, m_valueAt, ea, eb, nI_clamp (show a < 2147483648 by omega), nI_clamp (show b < 2147483648 by omega), v00, v01, v10, v11, em, es, es2, if_pos c, if_pos hc, col_t b (by omega), col_t (b + 1) (by omega), row_t a (by omega), row_t (a + 1) (by omega)]
    have hd2 := hd
    unfold x_X1_capacityAt at hd2
    rw [if_pos c] at hd2
    rw [hd2]
    apply Int32.toInt_inj.mp
    rw [f1, e1, eu]
  · rw [if_neg c, if_neg c]
    exact ⟨rfl, by rw [z0]; omega, by rw [z0]; omega⟩

/-! both sides' numbers: rated capacity, utilization, violation -/
/-- what the class's boards and the cells have in common: wheels, tables, outriggers, wind -/
def cTab (cw : Int32) (cv ce cs zs : Nat → Int32) : Prop := cw = zs 10 ∧ (∀ k, k < 96 → cv k = zs (47 + k)) ∧ (∀ k, k < 4 → ce k = zs (43 + k)) ∧ ∀ k, k < 4 → cs k = zs (17 - k)
theorem rated_e (zs : Nat → Int32) (le ra sl : Int32) : m_ratedFor zs le ra sl = ((m_capacityOf zs (m_tableAt zs sl) le ra).toInt64 * (mFac zs).toInt64 / 1000).toInt32 := by
  unfold m_ratedFor m_ratedFor_j34 mFac
  simp only [spLet_x]
  split <;> rfl
theorem q_rated {cw : Int32} {cv ce cs zs : Nat → Int32} (hc : cTab cw cv ce cs zs) (hG : mG zs) {le ra sl : Int32} (l0 : 1000 ≤ le.toInt) (l1 : le.toInt ≤ 6000) (s0 : 0 ≤ sl.toInt) (s1 : sl.toInt < 3600) : x_X1_ratedAt cw cv ce cs le ra sl = m_ratedFor zs le ra sl ∧ 0 ≤ (m_ratedFor zs le ra sl).toInt ∧ (m_ratedFor zs le ra sl).toInt ≤ 100000 := by
  obtain ⟨rfl, h1, h2, h3⟩ := hc
  obtain ⟨t1, t2⟩ := tableAt_n hG sl
  obtain ⟨e1, c0, c1⟩ := q_cap (cv := cv) h1 hG (ta := m_tableAt zs sl) (le := le) (ra := ra) t1 t2 l0 l1
  have f := fac_r hG
  have z : ((1000 : Int32)).toInt = 1000 := by decide
  have z2 : ((1000 : Int64)).toInt = 1000 := by decide
  obtain ⟨m0, m1⟩ := mulb (a := (m_capacityOf zs (m_tableAt zs sl) le ra).toInt) (A := 100000) (b := (mFac zs).toInt) (B := 1000) c0 c1 (by omega) (by omega)
  have ei : (m_ratedFor zs le ra sl).toInt = (m_capacityOf zs (m_tableAt zs sl) le ra).toInt * (mFac zs).toInt / 1000 := by
    rw [rated_e]
    exact zl2i (ldiv' (lmul' (zi2l rfl) (zi2l rfl) (by omega) (by omega)) z2 (by omega) (by omega)) (by omega) (by omega)
  refine ⟨?_, by rw [ei]; omega, by rw [ei]; omega⟩
  apply Int32.toInt_inj.mp
  rw [ei]
  unfold x_X1_ratedAt
  simp only [spLet_x, q_table h2 hG s0 s1, e1, q_fac h3 hG]
  exact zdiv (zmul rfl rfl (by omega) (by omega)) z (by omega) (by omega)
theorem q_utiliz {ld rt : Int32} (h0 : 0 ≤ ld.toInt) (h1 : 0 ≤ rt.toInt) : x_X8_utilization ld rt = m_utilizationOf ld rt := by
  have z : ((0 : Int32)).toInt = 0 := by decide
  have z9 : ((9999 : Int64)).toInt = 9999 := by decide
  unfold x_X8_utilization m_utilizationOf
  by_cases c : ld = 0
  · rw [if_pos c, if_neg (fun k => by have := Int32.lt_iff_toInt_lt.mp k; rw [c] at this; omega)]
  · have c2 : 0 < ld := Int32.lt_iff_toInt_lt.mpr (by
      rcases Int.lt_or_eq_of_le h0 with k | k
      · omega
      · exact absurd (Int32.toInt_inj.mp (by omega : ld.toInt = ((0 : Int32)).toInt)) c)
    rw [if_neg c, if_pos c2]
    by_cases d : rt = 0
    · rw [if_pos d, if_neg (fun k => by have := Int32.lt_iff_toInt_lt.mp k; rw [d] at this; omega)]
    · have d2 : 0 < rt := Int32.lt_iff_toInt_lt.mpr (by
        rcases Int.lt_or_eq_of_le h1 with k | k
        · omega
        · exact absurd (Int32.toInt_inj.mp (by omega : rt.toInt = ((0 : Int32)).toInt)) d)
      rw [if_neg d, if_pos d2, spLet_x]
      generalize (1000 : Int64) * ld.toInt64 / rt.toInt64 = q
      by_cases e : q < 9999
      · rw [if_pos e, if_pos ((lg_cmp_le _ _).mpr (Int64.le_of_lt e))]
      · rw [if_neg e]
        by_cases f : lg_cmp q 9999 ≤ 0
        · rw [if_pos f, Int64.le_antisymm ((lg_cmp_le _ _).mp f) (Int64.not_lt.mp e)]
        · rw [if_neg f]; rfl
theorem net_e (mm : Int32) (zs : Nat → Int32) : m_netLoad mm zs = m_greater 0 (mm - zs 5) := by rw [m_netLoad, spLet_x]
theorem net_r {zs : Nat → Int32} (mm : Int32) : 0 ≤ (m_netLoad mm zs).toInt := by
  have z : ((0 : Int32)).toInt = 0 := by decide
  rw [net_e, greater_r, z]
  omega
theorem utilAt_e (mm mr : Int32) (zs : Nat → Int32) (sl : Int32) : m_utilizationAt mm mr zs sl = m_utilizationOf (m_netLoad mm zs) (m_ratedFor zs (zs 0) mr sl) := by
  unfold m_utilizationAt
  simp only [spLet_x]
theorem q_utilN {cw : Int32} {cv ce cs zs : Nat → Int32} (hc : cTab cw cv ce cs zs) (hG : mG zs) {sl : Int32} (s0 : 0 ≤ sl.toInt) (s1 : sl.toInt < 3600) : x_X8_utilizationAtN (zs 0) (zs 1) (zs 4) (zs 6) (zs 5) cw cv ce cs sl = m_utilizationAt (mMas zs) (mRad zs) zs sl := by
  obtain ⟨e, r0, r1⟩ := q_rated hc hG (le := zs 0) (ra := mRad zs) (sl := sl) hG.c0.1 hG.c0.2 s0 s1
  unfold x_X8_utilizationAtN
  simp only [spLet_x, q_read hG, e]
  rw [utilAt_e]
  exact q_utiliz (net_r _) r0
theorem util_mr (mr : Int32) (zs : Nat → Int32) : m_utilization mr zs = (m_utilizationAt (mMas zs) (mRad zs) zs (zs 2), mMas zs, mRad zs) := by
  unfold m_utilization
  rw [spLet_x, measure_e, spLet_x]
  rfl
theorem mlh_z0 : ∀ k, k < 6 → (mlo (19 + 4 * k) = 0 ∧ mhi (19 + 4 * k) = 3599) ∧ (mlo (20 + 4 * k) = 0 ∧ mhi (20 + 4 * k) = 3599) ∧ (mlo (21 + 4 * k) = 0 ∧ mhi (21 + 4 * k) = 10000) ∧ mlo (22 + 4 * k) = 0 ∧ mhi (22 + 4 * k) = 10000 := by decide +kernel
/-- one zone's part of the violation -/
def vPart (zs : Nat → Int32) (k : Nat) : Int32 := if (((zs (20 + 4 * k)).toInt - (zs (19 + 4 * k)).toInt + 3600) % 3600) < (((zs 2).toInt - (zs (19 + 4 * k)).toInt + 3600) % 3600) then 0 else m_greater 0 (m_radius zs - zs (21 + 4 * k)) + m_greater 0 (m_height zs - zs (22 + 4 * k))
theorem vio_m {zs : Nat → Int32} (hG : mG zs) (k : Nat) (hk : k < 6) (r : Int32 → Nat → Int32) (v : Int32) : m_violation_b4 zs r v k = if (zs 18).toNatClampNeg ≤ k then v else r (v + vPart zs k) (k + 1) := by
  have b0 := hG (19 + 4 * k) (by omega)
  have b1 := hG (20 + 4 * k) (by omega)
  obtain ⟨⟨x0, x1⟩, ⟨x2, x3⟩, -⟩ := mlh_z0 k hk
  rw [x0, x1] at b0
  rw [x2, x3] at b1
  have b2 := hG.c2
  have z : ((3600 : Int32)).toInt = 3600 := by decide
  have i1 : 19 + 4 * k + 1 = 20 + 4 * k := by omega
  have i2 : 19 + 4 * k + 2 = 21 + 4 * k := by omega
  have i3 : 19 + 4 * k + 3 = 22 + 4 * k := by omega
  have e1 := zrem (zadd (zsub (x := zs (20 + 4 * k)) (y := zs (19 + 4 * k)) rfl rfl (by omega) (by omega)) z (by omega) (by omega)) z (by omega) (by omega)
  have e2 := zrem (zadd (zsub (x := zs 2) (y := zs (19 + 4 * k)) rfl rfl (by omega) (by omega)) z (by omega) (by omega)) z (by omega) (by omega)
  unfold m_violation_b4 m_violation_j78 m_violation_j125 vPart
  simp only [spLet_x, i1, i2, i3]
  by_cases c : (zs 18).toNatClampNeg ≤ k
  · rw [if_pos c, if_pos c]
  · rw [if_neg c, if_neg c]
    by_cases d : (((zs (20 + 4 * k)).toInt - (zs (19 + 4 * k)).toInt + 3600) % 3600) < (((zs 2).toInt - (zs (19 + 4 * k)).toInt + 3600) % 3600)
    · rw [if_pos d, if_pos (Int32.lt_iff_toInt_lt.mpr (by rw [e1, e2]; exact d)), if_pos trivial]
    · rw [if_neg d, if_neg (fun h => d (by have := Int32.lt_iff_toInt_lt.mp h; rw [e1, e2] at this; exact this)), if_neg (by decide)]
theorem vio_x {zf zs : Nat → Int32} (h : ∀ k, k < 24 → zf k = zs (19 + k)) (hG : mG zs) (k : Nat) (hk : k < 6) (r : Int32 → Nat → Int32) (v : Int32) : x_X7_violation_b16 (zs 18) zf (zs 2) (m_radius zs) (m_height zs) r v (4 * k) = if (zs 18).toNatClampNeg ≤ k then v else r (v + vPart zs k) (4 * k + 4) := by
  have b0 := hG (19 + 4 * k) (by omega)
  have b1 := hG (20 + 4 * k) (by omega)
  obtain ⟨⟨x0, x1⟩, ⟨x2, x3⟩, -⟩ := mlh_z0 k hk
  rw [x0, x1] at b0
  rw [x2, x3] at b1
  have b2 := hG.c2
  have e1 := clock_e (fr := zs (19 + 4 * k)) (to := zs (20 + 4 * k)) (by omega) (by omega) (by omega) (by omega)
  have e2 := clock_e (fr := zs (19 + 4 * k)) (to := zs 2) (by omega) (by omega) (by omega) (by omega)
  have f0 := h (4 * k) (by omega)
  have f1 := h (4 * k + 1) (by omega)
  have f2 := h (4 * k + 2) (by omega)
  have f3 := h (4 * k + 3) (by omega)
  rw [show 19 + (4 * k + 1) = 20 + 4 * k by omega] at f1
  rw [show 19 + (4 * k + 2) = 21 + 4 * k by omega] at f2
  rw [show 19 + (4 * k + 3) = 22 + 4 * k by omega] at f3
  have hm : ∀ x : Int32, (if x < (0 : Int32) then (0 : Int32) else x) = m_greater 0 x := fun x => by rw [greater_sw]
  unfold x_X7_violation_b16 x_X7_violation_j110 vPart
  simp only [spLet_x, f0, f1, f2, f3, hm]
  by_cases c : (zs 18).toNatClampNeg ≤ k
  · rw [if_pos (by omega), if_pos c]
  · rw [if_neg (by omega), if_neg c, if_neg (by omega)]
    by_cases d : (((zs (20 + 4 * k)).toInt - (zs (19 + 4 * k)).toInt + 3600) % 3600) < (((zs 2).toInt - (zs (19 + 4 * k)).toInt + 3600) % 3600)
    · rw [if_pos d, if_pos (Int32.lt_iff_toInt_lt.mpr (by rw [e1, e2]; exact d)), Int32.add_zero]
    · rw [if_neg d, if_neg (fun h => d (by have := Int32.lt_iff_toInt_lt.mp h; rw [e1, e2] at this; exact this))]
theorem q_violation {zf zs : Nat → Int32} (h : ∀ k, k < 24 → zf k = zs (19 + k)) (hG : mG zs) : x_X7_violation (zs 18) zf (zs 0) (zs 1) (zs 2) = m_violation zs := by
  obtain ⟨z1, z2⟩ := hG.zones
  have hr : x_X0_radius (zs 0) (zs 1) = m_radius zs := by rw [radius_of]; exact q_radius hG.c1.1 hG.c1.2
  have ht : x_X0_tip (zs 0) (zs 1) = m_height zs := by rw [height_of]; exact q_tip hG.c1.1 hG.c1.2
  unfold x_X7_violation m_violation
  simp only [spLet_x, hr, ht]
  have key : ∀ (n k : Nat) (v : Int32), k + n = 7 → spIter (fun _ _ => default) (x_X7_violation_b16 (zs 18) zf (zs 2) (m_radius zs) (m_height zs)) n v (4 * k) = spIter (fun _ _ => default) (m_violation_b4 zs) n v k := by
    intro n
    induction n with
    | zero => intro k v hk; rfl
    | succ n ih =>
      intro k v hk
      show x_X7_violation_b16 (zs 18) zf (zs 2) (m_radius zs) (m_height zs) (spIter (fun _ _ => default) (x_X7_violation_b16 (zs 18) zf (zs 2) (m_radius zs) (m_height zs)) n) v (4 * k) = m_violation_b4 zs (spIter (fun _ _ => default) (m_violation_b4 zs) n) v k
      by_cases c : (zs 18).toNatClampNeg ≤ k
      · have e1 : ∀ r : Int32 → Nat → Int32, x_X7_violation_b16 (zs 18) zf (zs 2) (m_radius zs) (m_height zs) r v (4 * k) = v := fun r => by unfold x_X7_violation_b16; rw [if_pos (by omega)]
        have e2 : ∀ r : Int32 → Nat → Int32, m_violation_b4 zs r v k = v := fun r => by unfold m_violation_b4; rw [if_pos c]
        rw [e1, e2]
      · rw [vio_x h hG k (by omega), vio_m hG k (by omega), if_neg c, if_neg c]
        have := ih (k + 1) (v + vPart zs k) (by omega)
        rw [show 4 * (k + 1) = 4 * k + 4 by omega] at this
        exact this
  exact key 7 0 0 rfl

