/-! both sides' numbers: rated capacity, utilization, violation -/
/-- what the class's boards and the cells have in common: wheels, tables, outriggers, wind -/
def cTab (cw : Int32) (cv ce cs zs : Nat → Int32) : Prop := cw = zs 10 ∧ (∀ k, k < 96 → cv k = zs (47 + k)) ∧ (∀ k, k < 4 → ce k = zs (43 + k)) ∧ ∀ k, k < 4 → cs k = zs (17 - k)
theorem rated_e (zs : Nat → Int32) (le ra sl : Int32) : m_ratedFor zs le ra sl = ((m_capacityOf zs (m_tableAt zs sl) le ra).toInt64 * (mFac zs).toInt64 / 1000).toInt32 := by
  unfold m_ratedFor m_ratedFor_j34 mFac
  simp only [spLet_x]
  split <;> rfl
theorem q_rated {cw : Int32} {cv ce cs zs : Nat → Int32} (hc : cTab cw cv ce cs zs) (hG : mG zs) {le ra sl : Int32} (l0 : 1000 ≤ le.toInt) (l1 : le.toInt ≤ 6000) (s0 : 0 ≤ sl.toInt) (s1 : sl.toInt < 3600) : x_X1_ratedAt cw cv ce cs le ra sl = m_ratedFor zs le ra sl ∧ 0 ≤ (m_ratedFor zs le ra sl).toInt ∧ (m_ratedFor zs le ra sl).toInt ≤ 100000 := by
  obtain ⟨rfl, h1, h2, h3⟩ := hc
  obtain ⟨t1, t2⟩ := tableAt_n hG sl
  obtain ⟨e1, c0, c1⟩ := q_cap (cv := cv) h1 hG (ta := m_tableAt zs sl) (le := le) (ra := ra) t1 t2 l0 l1
  have f := fac_r hG
  have z : ((1000 : Int32)).toInt = 1000 := by decide
  have z2 : ((1000 : Int64)).toInt = 1000 := by decide
  obtain ⟨m0, m1⟩ := mulb (a := (m_capacityOf zs (m_tableAt zs sl) le ra).toInt) (A := 100000) (b := (mFac zs).toInt) (B := 1000) c0 c1 (by omega) (by omega)
  have ei : (m_ratedFor zs le ra sl).toInt = (m_capacityOf zs (m_tableAt zs sl) le ra).toInt * (mFac zs).toInt / 1000 := by
    rw [rated_e]
    exact zl2i (ldiv' (lmul' (zi2l rfl) (zi2l rfl) (by omega) (by omega)) z2 (by omega) (by omega)) (by omega) (by omega)
  refine ⟨?_, by rw [ei]; omega, by rw [ei]; omega⟩
  apply Int32.toInt_inj.mp
  rw [ei]
  unfold x_X1_ratedAt
  simp only [spLet_x, q_table h2 hG s0 s1, e1, q_fac h3 hG]
  exact zdiv (zmul rfl rfl (by omega) (by omega)) z (by omega) (by omega)
theorem q_utiliz {ld rt : Int32} (h0 : 0 ≤ ld.toInt) (h1 : 0 ≤ rt.toInt) : x_X8_utilization ld rt = m_utilizationOf ld rt := by
  have z : ((0 : Int32)).toInt = 0 := by decide
  have z9 : ((9999 : Int64)).toInt = 9999 := by decide
  unfold x_X8_utilization m_utilizationOf
  by_cases c : ld = 0
  · rw [if_pos c, if_neg (fun k => by have := Int32.lt_iff_toInt_lt.mp k; rw [c] at this; omega)]
  · have c2 : 0 < ld := Int32.lt_iff_toInt_lt.mpr (by
      rcases Int.lt_or_eq_of_le h0 with k | k
      · omega
      · exact absurd (Int32.toInt_inj.mp (by omega : ld.toInt = ((0 : Int32)).toInt)) c)
    rw [if_neg c, if_pos c2]
    by_cases d : rt = 0
    · rw [if_pos d, if_neg (fun k => by have := Int32.lt_iff_toInt_lt.mp k; rw [d] at this; omega)]
    · have d2 : 0 < rt := Int32.lt_iff_toInt_lt.mpr (by
        rcases Int.lt_or_eq_of_le h1 with k | k
        · omega
        · exact absurd (Int32.toInt_inj.mp (by omega : rt.toInt = ((0 : Int32)).toInt)) d)
      rw [if_neg d, if_pos d2, spLet_x]
      generalize (1000 : Int64) * ld.toInt64 / rt.toInt64 = q
      by_cases e : q < 9999
      · rw [if_pos e, if_pos ((lg_cmp_le _ _).mpr (Int64.le_of_lt e))]
      · rw [if_neg e]
        by_cases f : lg_cmp q 9999 ≤ 0
        · rw [if_pos f, Int64.le_antisymm ((lg_cmp_le _ _).mp f) (Int64.not_lt.mp e)]
        · rw [if_neg f]; rfl
theorem net_e (mm : Int32) (zs : Nat → Int32) : m_netLoad mm zs = m_greater 0 (mm - zs 5) := by rw [m_netLoad, spLet_x]
theorem net_r {zs : Nat → Int32} (mm : Int32) : 0 ≤ (m_netLoad mm zs).toInt := by
  have z : ((0 : Int32)).toInt = 0 := by decide
  rw [net_e, greater_r, z]
  omega
theorem utilAt_e (mm mr : Int32) (zs : Nat → Int32) (sl : Int32) : m_utilizationAt mm mr zs sl = m_utilizationOf (m_netLoad mm zs) (m_ratedFor zs (zs 0) mr sl) := by
  unfold m_utilizationAt
  simp only [spLet_x]
theorem q_utilN {cw : Int32} {cv ce cs zs : Nat → Int32} (hc : cTab cw cv ce cs zs) (hG : mG zs) {sl : Int32} (s0 : 0 ≤ sl.toInt) (s1 : sl.toInt < 3600) : x_X8_utilizationAtN (zs 0) (zs 1) (zs 4) (zs 6) (zs 5) cw cv ce cs sl = m_utilizationAt (mMas zs) (mRad zs) zs sl := by
  obtain ⟨e, r0, r1⟩ := q_rated hc hG (le := zs 0) (ra := mRad zs) (sl := sl) hG.c0.1 hG.c0.2 s0 s1
  unfold x_X8_utilizationAtN
  simp only [spLet_x, q_read hG, e]
  rw [utilAt_e]
  exact q_utiliz (net_r _) r0
theorem util_mr (mr : Int32) (zs : Nat → Int32) : m_utilization mr zs = (m_utilizationAt (mMas zs) (mRad zs) zs (zs 2), mMas zs, mRad zs) := by
  unfold m_utilization
  rw [spLet_x, measure_e, spLet_x]
  rfl
theorem mlh_z0 : ∀ k, k < 6 → (mlo (19 + 4 * k) = 0 ∧ mhi (19 + 4 * k) = 3599) ∧ (mlo (20 + 4 * k) = 0 ∧ mhi (20 + 4 * k) = 3599) ∧ (mlo (21 + 4 * k) = 0 ∧ mhi (21 + 4 * k) = 10000) ∧ mlo (22 + 4 * k) = 0 ∧ mhi (22 + 4 * k) = 10000 := by decide +kernel
/-- one zone's part of the violation -/
def vPart (zs : Nat → Int32) (k : Nat) : Int32 := if (((zs (20 + 4 * k)).toInt - (zs (19 + 4 * k)).toInt + 3600) % 3600) < (((zs 2).toInt - (zs (19 + 4 * k)).toInt + 3600) % 3600) then 0 else m_greater 0 (m_radius zs - zs (21 + 4 * k)) + m_greater 0 (m_height zs - zs (22 + 4 * k))
theorem vio_m {zs : Nat → Int32} (hG : mG zs) (k : Nat) (hk : k < 6) (r : Int32 → Nat → Int32) (v : Int32) : m_violation_b4 zs r v k = if (zs 18).toNatClampNeg ≤ k then v else r (v + vPart zs k) (k + 1) := by
  have b0 := hG (19 + 4 * k) (by omega)
  have b1 := hG (20 + 4 * k) (by omega)
  obtain ⟨⟨x0, x1⟩, ⟨x2, x3⟩, -⟩ := mlh_z0 k hk
  rw [x0, x1] at b0
  rw [x2, x3] at b1
  have b2 := hG.c2
  have z : ((3600 : Int32)).toInt = 3600 := by decide
  have i1 : 19 + 4 * k + 1 = 20 + 4 * k := by omega
  have i2 : 19 + 4 * k + 2 = 21 + 4 * k := by omega
  have i3 : 19 + 4 * k + 3 = 22 + 4 * k := by omega
  have e1 := zrem (zadd (zsub (x := zs (20 + 4 * k)) (y := zs (19 + 4 * k)) rfl rfl (by omega) (by omega)) z (by omega) (by omega)) z (by omega) (by omega)
  have e2 := zrem (zadd (zsub (x := zs 2) (y := zs (19 + 4 * k)) rfl rfl (by omega) (by omega)) z (by omega) (by omega)) z (by omega) (by omega)
  unfold m_violation_b4 m_violation_j78 m_violation_j125 vPart
  simp only [spLet_x, i1, i2, i3]
  by_cases c : (zs 18).toNatClampNeg ≤ k
  · rw [if_pos c, if_pos c]
  · rw [if_neg c, if_neg c]
    by_cases d : (((zs (20 + 4 * k)).toInt - (zs (19 + 4 * k)).toInt + 3600) % 3600) < (((zs 2).toInt - (zs (19 + 4 * k)).toInt + 3600) % 3600)
    · rw [if_pos d, if_pos (Int32.lt_iff_toInt_lt.mpr (by rw [e1, e2]; exact d)), if_pos trivial]
    · rw [if_neg d, if_neg (fun h => d (by have := Int32.lt_iff_toInt_lt.mp h; rw [e1, e2] at this; exact this)), if_neg (by decide)]
theorem vio_x {zf zs : Nat → Int32} (h : ∀ k, k < 24 → zf k = zs (19 + k)) (hG : mG zs) (k : Nat) (hk : k < 6) (r : Int32 → Nat → Int32) (v : Int32) : x_X7_violation_b16 (zs 18) zf (zs 2) (m_radius zs) (m_height zs) r v (4 * k) = if (zs 18).toNatClampNeg ≤ k then v else r (v + vPart zs k) (4 * k + 4) := by
  have b0 := hG (19 + 4 * k) (by omega)
  have b1 := hG (20 + 4 * k) (by omega)
  obtain ⟨⟨x0, x1⟩, ⟨x2, x3⟩, -⟩ := mlh_z0 k hk
  rw [x0, x1] at b0
  rw [x2, x3] at b1
  have b2 := hG.c2
  have e1 := clock_e (fr := zs (19 + 4 * k)) (to := zs (20 + 4 * k)) (by omega) (by omega) (by omega) (by omega)
  have e2 := clock_e (fr := zs (19 + 4 * k)) (to := zs 2) (by omega) (by omega) (by omega) (by omega)
  have f0 := h (4 * k) (by omega)
  have f1 := h (4 * k + 1) (by omega)
  have f2 := h (4 * k + 2) (by omega)
  have f3 := h (4 * k + 3) (by omega)
  rw [show 19 + (4 * k + 1) = 20 + 4 * k by omega] at f1
  rw [show 19 + (4 * k + 2) = 21 + 4 * k by omega] at f2
  rw [show 19 + (4 * k + 3) = 22 + 4 * k by omega] at f3
  have hm : ∀ x : Int32, (if x < (0 : Int32) then (0 : Int32) else x) = m_greater 0 x := fun x => by rw [greater_sw]
  unfold x_X7_violation_b16 x_X7_violation_j110 vPart
  simp only [spLet_x, f0, f1, f2, f3, hm]
  by_cases c : (zs 18).toNatClampNeg ≤ k
  · rw [if_pos (by omega), if_pos c]
  · rw [if_neg (by omega), if_neg c, if_neg (by omega)]
    by_cases d : (((zs (20 + 4 * k)).toInt - (zs (19 + 4 * k)).toInt + 3600) % 3600) < (((zs 2).toInt - (zs (19 + 4 * k)).toInt + 3600) % 3600)
    · rw [if_pos d, if_pos (Int32.lt_iff_toInt_lt.mpr (by rw [e1, e2]; exact d)), Int32.add_zero]
    · rw [if_neg d, if_neg (fun h => d (by have := Int32.lt_iff_toInt_lt.mp h; rw [e1, e2] at this; exact this))]
theorem q_violation {zf zs : Nat → Int32} (h : ∀ k, k < 24 → zf k = zs (19 + k)) (hG : mG zs) : x_X7_violation (zs 18) zf (zs 0) (zs 1) (zs 2) = m_violation zs := by
  obtain ⟨z1, z2⟩ := hG.zones
  have hr : x_X0_radius (zs 0) (zs 1) = m_radius zs := by rw [radius_of]; exact q_radius hG.c1.1 hG.c1.2
  have ht : x_X0_tip (zs 0) (zs 1) = m_height zs := by rw [height_of]; exact q_tip hG.c1.1 hG.c1.2
  unfold x_X7_violation m_violation
  simp only [spLet_x, hr, ht]
  have key : ∀ (n k : Nat) (v : Int32), k + n = 7 → spIter (fun _ _ => default) (x_X7_violation_b16 (zs 18) zf (zs 2) (m_radius zs) (m_height zs)) n v (4 * k) = spIter (fun _ _ => default) (m_violation_b4 zs) n v k := by
    intro n
    induction n with
    | zero => intro k v hk; rfl
    | succ n ih =>
      intro k v hk
      show x_X7_violation_b16 (zs 18) zf (zs 2) (m_radius zs) (m_height zs) (spIter (fun _ _ => default) (x_X7_violation_b16 (zs 18) zf (zs 2) (m_radius zs) (m_height zs)) n) v (4 * k) = m_violation_b4 zs (spIter (fun _ _ => default) (m_violation_b4 zs) n) v k
      by_cases c : (zs 18).toNatClampNeg ≤ k
      · have e1 : ∀ r : Int32 → Nat → Int32, x_X7_violation_b16 (zs 18) zf (zs 2) (m_radius zs) (m_height zs) r v (4 * k) = v := fun r => by unfold x_X7_violation_b16; rw [if_pos (by omega)]
        have e2 : ∀ r : Int32 → Nat → Int32, m_violation_b4 zs r v k = v := fun r => by unfold m_violation_b4; rw [if_pos c]
        rw [e1, e2]
      · rw [vio_x h hG k (by omega), vio_m hG k (by omega), if_neg c, if_neg c]
        have := ih (k + 1) (v + vPart zs k) (by omega)
        rw [show 4 * (k + 1) = 4 * k + 4 by omega] at this
        exact this
  exact key 7 0 0 rfl
