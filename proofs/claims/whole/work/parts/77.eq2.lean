/-! both sides' numbers: wind, tables, capacities -/
theorem q_wind {cs zs : Nat → Int32} (h : ∀ k, k < 4 → cs k = zs (17 - k)) : x_X1_windSpeed cs = m_windNow zs := by
  have e1 : x_X1_windSpeed cs = m_greater (cs 3) (m_greater (cs 2) (m_greater (cs 1) (m_greater (cs 0) 0))) := by
    unfold x_X1_windSpeed
    have hj : ∀ (k : Nat) (r : Int32 → Nat → Int32) (v x : Int32), (if x ≤ v then x_X1_windSpeed_j34 k r v else x_X1_windSpeed_j34 k r x) = r (m_greater x v) (k + 1) := fun k r v x => by
      unfold m_greater x_X1_windSpeed_j34
      split <;> rfl
    simp only [spIter, x_X1_windSpeed_b13, spLet_x, hj]
    rw [if_neg (by decide), if_neg (by decide), if_neg (by decide), if_neg (by decide), if_pos (by decide)]
  have e2 : m_windNow zs = m_greater (m_greater (m_greater (m_greater 0 (zs 14)) (zs 15)) (zs 16)) (zs 17) := by
    unfold m_windNow
    simp only [spIter, m_windNow_b4, spLet_x]
    rw [if_neg (by decide), if_neg (by decide), if_neg (by decide), if_neg (by decide), if_pos (by decide)]
  have h0 : cs 0 = zs 17 := h 0 (by decide)
  have h1 : cs 1 = zs 16 := h 1 (by decide)
  have h2 : cs 2 = zs 15 := h 2 (by decide)
  have h3 : cs 3 = zs 14 := h 3 (by decide)
  rw [e1, e2, h0, h1, h2, h3]
  apply Int32.toInt_inj.mp
  simp only [greater_r]
  omega
theorem wind_r {zs : Nat → Int32} (h : mG zs) : 0 ≤ (m_windNow zs).toInt ∧ (m_windNow zs).toInt ≤ 1000 := by
  have e2 : m_windNow zs = m_greater (m_greater (m_greater (m_greater 0 (zs 14)) (zs 15)) (zs 16)) (zs 17) := by
    unfold m_windNow
    simp only [spIter, m_windNow_b4, spLet_x]
    rw [if_neg (by decide), if_neg (by decide), if_neg (by decide), if_neg (by decide), if_pos (by decide)]
  have b : ∀ k, 14 ≤ k → k < 18 → 0 ≤ (zs k).toInt ∧ (zs k).toInt ≤ 1000 := fun k h1 h2 => by
    have := h k (by omega)
    unfold mlo mhi at this
    simp (config := { decide := false }) only [show ¬ k = 0 by omega, show ¬ k = 1 by omega, show ¬ k = 2 by omega, show ¬ k = 3 by omega, show ¬ k = 4 by omega, show ¬ k = 5 by omega, show ¬ k = 6 by omega, show ¬ k = 7 by omega, show ¬ k = 8 by omega, show ¬ k = 9 by omega, show ¬ k = 10 by omega, show ¬ k = 11 by omega, show ¬ k = 12 by omega, show ¬ k = 13 by omega, show k < 18 by omega, show k < 144 by omega, if_true, if_false, or_self] at this
    exact this
  have b1 := b 14 (by omega) (by omega)
  have b2 := b 15 (by omega) (by omega)
  have b3 := b 16 (by omega) (by omega)
  have b4 := b 17 (by omega) (by omega)
  rw [e2]
  simp only [greater_r]
  have z : ((0 : Int32)).toInt = 0 := by decide
  omega
def mFac (zs : Nat → Int32) : Int32 := if (100 : Int32) < m_windNow zs then m_greater 0 (1000 - 2 * (m_windNow zs - 100)) else 1000
theorem fac_r {zs : Nat → Int32} (h : mG zs) : (mFac zs).toInt = max 0 (1000 - 2 * max 0 ((m_windNow zs).toInt - 100)) := by
  obtain ⟨w0, w1⟩ := wind_r h
  have z1 : ((100 : Int32)).toInt = 100 := by decide
  have z2 : ((1000 : Int32)).toInt = 1000 := by decide
  have z3 : ((2 : Int32)).toInt = 2 := by decide
  have z : ((0 : Int32)).toInt = 0 := by decide
  unfold mFac
  split
  · rename_i c
    have c2 := Int32.lt_iff_toInt_lt.mp c
    rw [greater_r, zsub z2 (zmul z3 (zsub rfl z1 (by omega) (by omega)) (by omega) (by omega)) (by omega) (by omega), z]
    omega
  · rename_i c
    have c2 : ¬ (100 : Int) < (m_windNow zs).toInt := fun k => c (Int32.lt_iff_toInt_lt.mpr (by rw [z1]; exact k))
    rw [z2]
    omega
theorem q_fac {cs zs : Nat → Int32} (h : ∀ k, k < 4 → cs k = zs (17 - k)) (hG : mG zs) : x_X1_windFactor cs = mFac zs := by
  obtain ⟨w0, w1⟩ := wind_r hG
  have z1 : ((100 : Int32)).toInt = 100 := by decide
  have z2 : ((1000 : Int32)).toInt = 1000 := by decide
  have z3 : ((2 : Int32)).toInt = 2 := by decide
  have z : ((0 : Int32)).toInt = 0 := by decide
  have hm : ∀ x : Int32, (if x < (0 : Int32) then (0 : Int32) else x) = m_greater 0 x := fun x => by rw [greater_sw]
  unfold x_X1_windFactor
  simp only [spLet_x, q_wind h, hm]
  apply Int32.toInt_inj.mp
  have e1 : (m_greater 0 (m_windNow zs - 100)).toInt = max 0 ((m_windNow zs).toInt - 100) := by rw [greater_r, zsub rfl z1 (by omega) (by omega), z]
  rw [fac_r hG, greater_r, z, zsub z2 (zmul z3 e1 (by omega) (by omega)) (by omega) (by omega)]
/-- near an outrigger: one arc, two ways to ask -/
theorem apart_e {s b : Int32} (s0 : 0 ≤ s.toInt) (s1 : s.toInt < 3600) (b0 : 0 ≤ b.toInt) (b1 : b.toInt < 3600) : (m_apart s b).toInt = min ((s.toInt - b.toInt + 3600) % 3600) (3600 - (s.toInt - b.toInt + 3600) % 3600) := by
  have z : ((3600 : Int32)).toInt = 3600 := by decide
  unfold m_apart
  simp only [spLet_x]
  have e := zrem (zadd (zsub (x := s) (y := b) rfl rfl (by omega) (by omega)) z (by omega) (by omega)) z (by omega) (by omega)
  rw [lesser_r, zsub z e (by omega) (by omega), e]
theorem clock_e {fr to : Int32} (h0 : 0 ≤ fr.toInt) (h1 : fr.toInt < 3600) (h2 : 0 ≤ to.toInt) (h3 : to.toInt < 3600) : (x_X8_clockwise fr to).toInt = (to.toInt - fr.toInt + 3600) % 3600 := by
  have z : ((3600 : Int32)).toInt = 3600 := by decide
  rw [cw_e]
  split
  · rename_i c
    have c2 := Int32.lt_iff_toInt_lt.mp c
    rw [zadd (zsub rfl rfl (by omega) (by omega)) z (by omega) (by omega)]
    omega
  · rename_i c
    have c2 : ¬ to.toInt < fr.toInt := fun k => c (Int32.lt_iff_toInt_lt.mpr k)
    rw [zsub rfl rfl (by omega) (by omega)]
    omega
abbrev nearP (s : Int) (k : Nat) : Prop := (s - (450 + 900 * (k : Int)) + 3600) % 3600 < 900 ∨ 2700 < (s - (450 + 900 * (k : Int)) + 3600) % 3600
theorem nk_i {k : Nat} (hk : k < 4) : (nI (450 + (900 * k))).toInt = 450 + 900 * (k : Int) := by rw [nI_toInt (by omega)]; omega
theorem tab_m {zs : Nat → Int32} {s : Int32} (s0 : 0 ≤ s.toInt) (s1 : s.toInt < 3600) (k : Nat) (hk : k < 4) (r : Int32 → Nat → Int32) (v : Int32) (hz : zs 10 = 0) : m_tableAt_b4 zs s r v k = r (if nearP s.toInt k then m_lesser v (zs (43 + k)) else v) (k + 1) := by
  have ek := nk_i hk
  have e := apart_e s0 s1 (b := nI (450 + (900 * k))) (by omega) (by omega)
  rw [ek] at e
  have z : ((900 : Int32)).toInt = 900 := by decide
  unfold m_tableAt_b4 m_tableAt_j55
  simp only [spLet_x]
  rw [if_neg (by omega), if_pos hz]
  by_cases c : (900 : Int32) ≤ m_apart s (nI (450 + (900 * k)))
  · have c2 := Int32.le_iff_toInt_le.mp c
    rw [z, e] at c2
    rw [if_pos c, if_neg (fun h => by unfold nearP at h; omega)]
  · have c2 : ¬ (900 : Int) ≤ min ((s.toInt - (450 + 900 * (k : Int)) + 3600) % 3600) (3600 - (s.toInt - (450 + 900 * (k : Int)) + 3600) % 3600) := fun h => c (Int32.le_iff_toInt_le.mpr (by rw [z, e]; exact h))
    rw [if_neg c, if_pos (by unfold nearP; omega)]
theorem tab_x {ce : Nat → Int32} {s : Int32} (s0 : 0 ≤ s.toInt) (s1 : s.toInt < 3600) (k : Nat) (hk : k < 4) (r : Int32 → Nat → Int32) (v : Int32) : x_X1_tableAt_b13 ce s r v k = r (if nearP s.toInt k then m_lesser (ce k) v else v) (k + 1) := by
  have ek := nk_i hk
  have e := clock_e (fr := nI (450 + (900 * k))) (to := s) (by omega) (by omega) s0 s1
  rw [ek] at e
  have z : ((900 : Int32)).toInt = 900 := by decide
  have z2 : ((2700 : Int32)).toInt = 2700 := by decide
  have z9 : ¬ ((1 : Int32) = 0) := by decide
  have hj : x_X1_tableAt_j53 ce v k r = r (m_lesser (ce k) v) (k + 1) := by
    unfold x_X1_tableAt_j53 x_X1_tableAt_j58 x_X1_tableAt_j82 m_lesser
    simp only [spLet_x]
    rw [if_neg z9]
    split <;> rfl
  have hj0 : x_X1_tableAt_j58 ce v k r 0 = r v (k + 1) := by
    unfold x_X1_tableAt_j58 x_X1_tableAt_j82
    rw [if_pos rfl]
  unfold x_X1_tableAt_b13
  simp only [spLet_x]
  rw [if_neg (by omega), hj, hj0]
  by_cases c : x_X8_clockwise (nI (450 + (900 * k))) s < (900 : Int32)
  · have c2 := Int32.lt_iff_toInt_lt.mp c
    rw [z, e] at c2
    rw [if_pos c, if_pos (show nearP s.toInt k from Or.inl c2)]
  · have c2 : ¬ ((s.toInt - (450 + 900 * (k : Int)) + 3600) % 3600 < 900) := fun h => c (Int32.lt_iff_toInt_lt.mpr (by rw [z, e]; exact h))
    rw [if_neg c]
    by_cases d : x_X8_clockwise (nI (450 + (900 * k))) s ≤ (2700 : Int32)
    · have d2 := Int32.le_iff_toInt_le.mp d
      rw [z2, e] at d2
      rw [if_pos d, if_neg (fun h => by unfold nearP at h; omega)]
    · have d2 : ¬ ((s.toInt - (450 + 900 * (k : Int)) + 3600) % 3600 ≤ 2700) := fun h => d (Int32.le_iff_toInt_le.mpr (by rw [z2, e]; exact h))
      rw [if_neg d, if_pos (by unfold nearP; omega)]
theorem q_table {ce zs : Nat → Int32} {s : Int32} (h : ∀ k, k < 4 → ce k = zs (43 + k)) (hG : mG zs) (s0 : 0 ≤ s.toInt) (s1 : s.toInt < 3600) : x_X1_tableAt (zs 10) ce s = m_tableAt zs s := by
  have o0 := hG.outr (k := 0) (by decide)
  have o1 := hG.outr (k := 1) (by decide)
  have o2 := hG.outr (k := 2) (by decide)
  have o3 := hG.outr (k := 3) (by decide)
  have z2 : ((2 : Int32)).toInt = 2 := by decide
  have z3 : ((3 : Int32)).toInt = 3 := by decide
  unfold x_X1_tableAt m_tableAt
  by_cases hz : zs 10 = 0
  · rw [if_pos hz]
    show x_X1_tableAt_b13 ce s (x_X1_tableAt_b13 ce s (x_X1_tableAt_b13 ce s (x_X1_tableAt_b13 ce s (x_X1_tableAt_b13 ce s (fun _ _ => default))))) 2 0 = m_tableAt_b4 zs s (m_tableAt_b4 zs s (m_tableAt_b4 zs s (m_tableAt_b4 zs s (m_tableAt_b4 zs s (fun _ _ => default))))) 3 0
    rw [tab_x s0 s1 0 (by decide), tab_x s0 s1 1 (by decide), tab_x s0 s1 2 (by decide), tab_x s0 s1 3 (by decide), tab_m s0 s1 0 (by decide) _ _ hz, tab_m s0 s1 1 (by decide) _ _ hz, tab_m s0 s1 2 (by decide) _ _ hz, tab_m s0 s1 3 (by decide) _ _ hz]
    have ex : ∀ (r : Int32 → Nat → Int32) (v : Int32), x_X1_tableAt_b13 ce s r v 4 = v := fun r v => by unfold x_X1_tableAt_b13; rw [if_pos (by decide)]
    have em : ∀ (r : Int32 → Nat → Int32) (v : Int32), m_tableAt_b4 zs s r v 4 = v := fun r v => by unfold m_tableAt_b4; rw [if_pos (by decide)]
    rw [ex, em, h 0 (by decide), h 1 (by decide), h 2 (by decide), h 3 (by decide)]
    apply Int32.toInt_inj.mp
    have hn : nearP s.toInt 0 ∨ nearP s.toInt 1 ∨ nearP s.toInt 2 ∨ nearP s.toInt 3 := by unfold nearP; omega
    by_cases n0 : nearP s.toInt 0 <;> by_cases n1 : nearP s.toInt 1 <;> by_cases n2 : nearP s.toInt 2 <;> by_cases n3 : nearP s.toInt 3 <;> simp only [n0, n1, n2, n3, if_true, if_false, lesser_r, z2, z3] <;> first | omega | (exfalso; simp only [n0, n1, n2, n3, or_self] at hn)
  · rw [if_neg hz]
    show (3 : Int32) = m_tableAt_b4 zs s _ 3 0
    unfold m_tableAt_b4
    rw [if_neg (by decide), if_neg hz]
