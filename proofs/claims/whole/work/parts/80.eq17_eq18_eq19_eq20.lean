/-! both sides: the calls that only look -/
section RD
variable {iv : Nat → Int32} {av : Nat → Nat → Int32} {z : Nat → Int32} {n : Nat}
theorem relSt.tab (h : relSt iv av z) : cTab (iv 11) (av 0) (av 1) (av 2) z := h.2.1
theorem relSt.zon (h : relSt iv av z) : cZon (iv 12) (av 3) z := h.2.2.1
theorem relSt.G (h : relSt iv av z) : mG z := h.2.G
theorem q_capacity (h : relSt iv av z) {ta ro co : Int32} (h1 : okI ta 4 ∧ okI ro 4 ∧ okI co 6) : m_capacity z ta ro co = (x_X8_capacity (av 0) ta ro co, 0) := by
  obtain ⟨t1, t2⟩ := okI_n h1.1
  obtain ⟨r1, r2⟩ := okI_n h1.2.1
  obtain ⟨c1, c2⟩ := okI_n h1.2.2
  have hv := x_val (cv := av 0) h.tab.2.1 (t := ta.toNatClampNeg) (i := ro.toNatClampNeg) (j := co.toNatClampNeg) t2 r2 c2
  rw [← t1, ← r1, ← c1] at hv
  unfold m_capacity x_X8_capacity m_valueAt_p
  simp only [spLet_x]
  rw [place_1 h1, if_neg (by decide), hv, Int32.toInt32_toInt64]
theorem q_capacity_1 {ta ro co : Int32} (h1 : ¬ (okI ta 4 ∧ okI ro 4 ∧ okI co 6)) : m_capacity z ta ro co = (0, 1) := by
  unfold m_capacity m_fails
  simp only [spLet_x]
  rw [place_0 h1, if_pos rfl]
theorem okA_8 {mo : Int32} (h : okA mo 0 7) : 0 ≤ mo.toInt ∧ mo.toInt < 8 := by
  obtain ⟨a, b⟩ := h
  rw [l_0] at a
  rw [show ((7 : Int32)).toInt = 7 by decide] at b
  omega
theorem q_predicted (h : relSt iv av z) {mo : Int32} (h1 : okA mo 0 7) (mm mr : Int32) (zp : Nat → Int32) : ∃ mm' mr' zp', m_predicted mm mr z zp mo = (x_X8_predicted (iv 0) (iv 4) (iv 5) (iv 6) (iv 7) (iv 8) (iv 9) (iv 10) (iv 11) (av 0) (av 1) (av 2) mo, 0, mm', mr', zp') := by
  obtain ⟨⟨a0, a1, a2, a3, a4, a5, a6, a7, a8, a9, a10⟩, hr⟩ := h
  have hG := hr.G
  have hc := hr.1
  obtain ⟨m0, m8⟩ := okA_8 h1
  have Gw := carry_G hG mo
  have fw : frP z (m_carry z mo) := frP.carry (fun q hq => rfl) mo
  have w6 : m_carry z mo 6 = z 6 := carry_hi z mo (by decide)
  have w5 : m_carry z mo 5 = z 5 := carry_hi z mo (by decide)
  have em := q_move z hG m0 m8
  have sl := Gw.c2
  have er := q_read Gw
  obtain ⟨e, r0, r1⟩ := q_rated (fw.tab hc) Gw (le := m_carry z mo 0) (ra := mRad (m_carry z mo)) (sl := m_carry z mo 2) Gw.c0.1 Gw.c0.2 sl.1 (by omega)
  rw [w5, w6] at er
  have ex : x_X8_predicted (iv 0) (iv 4) (iv 5) (iv 6) (iv 7) (iv 8) (iv 9) (iv 10) (iv 11) (av 0) (av 1) (av 2) mo = m_utilizationAt (mMas (m_carry z mo)) (mRad (m_carry z mo)) (m_carry z mo) (m_carry z mo 2) := by
    unfold x_X8_predicted x_X8_tryMotion x_X8_utilizationAtR
    rw [a0, a4, a5, a6, a7, a8, a9, a10]
    simp only [spLet_x, em, bv, er, e]
    rw [utilAt_e]
    exact q_utiliz (net_r _) r0
  refine ⟨mMas (m_carry z mo), mRad (m_carry z mo), m_remember z zp, ?_⟩
  rw [ex]
  unfold m_predicted
  simp only [spLet_x, util_mr]
  rw [in_1 h1, if_neg (by decide)]
theorem q_predicted_1 {mo : Int32} (h1 : ¬ okA mo 0 7) (mm mr : Int32) (zp : Nat → Int32) : m_predicted mm mr z zp mo = (0, 1, mm, mr, zp) := by
  unfold m_predicted m_fails
  simp only [spLet_x]
  rw [in_0 h1, if_pos rfl]
theorem q_boomV (h : relSt iv av z) (wh : Int32) : x_X8_boomValue (iv 1) (iv 2) (iv 4) (iv 5) (iv 6) (iv 7) (iv 8) (iv 9) (iv 10) (iv 12) (av 3) wh = m_boomValue z wh := by
  obtain ⟨⟨a0, a1, a2, a3, a4, a5, a6, a7, a8, a9, a10⟩, hr⟩ := h
  have hG := hr.G
  have hz := hr.2.1
  have hr1 : x_X0_radius (z 0) (z 1) = m_radius z := by rw [radius_of]; exact q_radius hG.c1.1 hG.c1.2
  have ht : x_X0_tip (z 0) (z 1) = m_height z := by rw [height_of]; exact q_tip hG.c1.1 hG.c1.2
  have ev : x_X7_violation (iv 12) (av 3) (z 0) (z 1) (z 2) = m_violation z := by rw [hz.1]; exact q_violation hz.2 hG
  unfold x_X8_boomValue m_boomValue
  rw [a1, a2, a4, a5, a6, a7, a8, a9, a10]
  simp only [spLet_x, hr1, ht, ev, q_read hG]
theorem q_boom (h : relSt iv av z) {wh : Int32} (h1 : okA wh 0 11) : m_boom z wh = (x_X8_boom (iv 1) (iv 2) (iv 4) (iv 5) (iv 6) (iv 7) (iv 8) (iv 9) (iv 10) (iv 12) (av 3) wh, 0) := by
  unfold m_boom x_X8_boom
  simp only [spLet_x, q_boomV h]
  rw [in_1 h1, if_neg (by decide)]
theorem q_boom_1 {wh : Int32} (h1 : ¬ okA wh 0 11) : m_boom z wh = (0, 1) := by
  unfold m_boom m_fails
  simp only [spLet_x]
  rw [in_0 h1, if_pos rfl]
theorem q_limV (h : relSt iv av z) (wh mr : Int32) : m_limiterValue mr z wh = (x_X8_limiterValue (iv 0) (iv 4) (iv 5) (iv 6) (iv 8) (iv 9) (iv 10) (iv 11) (av 0) (av 1) (av 2) wh, mMas z, mRad z) := by
  obtain ⟨⟨a0, a1, a2, a3, a4, a5, a6, a7, a8, a9, a10⟩, hr⟩ := h
  have hG := hr.G
  have hc := hr.1
  have sl := hG.c2
  have et : x_X1_tableAt (iv 11) (av 1) (z 2) = m_tableAt z (z 2) := by rw [hc.1]; exact q_table hc.2.2.1 hG sl.1 (by omega)
  have ew := q_wind hc.2.2.2
  have er := (q_rated hc hG (le := z 0) (ra := mRad z) (sl := z 2) hG.c0.1 hG.c0.2 sl.1 (by omega)).1
  have eu := q_utilN hc hG (sl := z 2) sl.1 (by omega)
  have em : m_measure mr z = (mMas z, mRad z) := measure_e mr z
  unfold x_X8_limiterValue m_limiterValue
  rw [a0, a4, a5, a6, a8, a9, a10]
  simp only [spLet_x, q_read hG, et, ew, er, eu, em]
  by_cases c0 : wh = 0
  · simp only [if_pos c0]
  · simp only [if_neg c0]
    by_cases c1 : wh = 1
    · simp only [if_pos c1]
    · simp only [if_neg c1]
      by_cases c2 : wh = 2
      · simp only [if_pos c2]
      · simp only [if_neg c2]
        by_cases c3 : wh = 3
        · simp only [if_pos c3]
        · simp only [if_neg c3]
          by_cases c4 : wh = 4
          · simp only [if_pos c4]
          · simp only [if_neg c4]
            by_cases c5 : wh = 5
            · simp only [if_pos c5]
            · simp only [if_neg c5]
              by_cases c6 : wh = 6
              · simp only [if_pos c6]
              · simp only [if_neg c6]
theorem q_limiter (h : relSt iv av z) {wh : Int32} (h1 : okA wh 0 7) (mm mr : Int32) : ∃ mm' mr', m_limiter mm mr z wh = (x_X8_limiter (iv 0) (iv 4) (iv 5) (iv 6) (iv 8) (iv 9) (iv 10) (iv 11) (av 0) (av 1) (av 2) wh, 0, mm', mr') := by
  refine ⟨mMas z, mRad z, ?_⟩
  unfold m_limiter x_X8_limiter
  simp only [spLet_x, q_limV h]
  rw [in_1 h1, if_neg (by decide)]
theorem q_limiter_1 {wh : Int32} (h1 : ¬ okA wh 0 7) (mm mr : Int32) : m_limiter mm mr z wh = (0, 1, mm, mr) := by
  unfold m_limiter m_fails
  simp only [spLet_x]
  rw [in_0 h1, if_pos rfl]
theorem q_ratedC (h : relSt iv av z) {nl na ns : Int32} (h1 : okA nl 1000 6000 ∧ okA na 0 850 ∧ okA ns 0 3599) : m_rated z nl na ns = (x_X8_rated (iv 11) (av 0) (av 1) (av 2) nl na ns, 0) := by
  obtain ⟨l1, l2⟩ := h1.1
  obtain ⟨b1, b2⟩ := h1.2.1
  obtain ⟨s1, s2⟩ := h1.2.2
  have z1 : ((1000 : Int32)).toInt = 1000 := by decide
  have z2 : ((3599 : Int32)).toInt = 3599 := by decide
  rw [z1] at l1
  rw [l_6000] at l2
  rw [l_0] at b1 s1
  rw [l_850] at b2
  rw [z2] at s2
  have er := (q_rated h.tab h.G (le := nl) (ra := m_radiusOf nl na) (sl := ns) l1 l2 s1 (by omega)).1
  unfold m_rated x_X8_rated x_X0_place
  simp only [spLet_x, q_radius b1 b2, er]
  rw [posi_1 h1, if_neg (by decide)]
theorem q_ratedC_1 {nl na ns : Int32} (h1 : ¬ (okA nl 1000 6000 ∧ okA na 0 850 ∧ okA ns 0 3599)) : m_rated z nl na ns = (0, 1) := by
  unfold m_rated m_fails
  simp only [spLet_x]
  rw [posi_0 h1, if_pos rfl]
theorem q_maxRadius (h : relSt iv av z) {ma : Int32} (h1 : okA ma 1 100000) : m_maxRadius z ma = (x_X8_maxRadius (iv 4) (iv 6) (iv 11) (av 0) (av 1) (av 2) ma, 0) := by
  obtain ⟨⟨a0, a1, a2, a3, a4, a5, a6, a7, a8, a9, a10⟩, hr⟩ := h
  have hG := hr.G
  have hc := hr.1
  have sl := hG.c2
  have key : ∀ (n : Nat) (v : Int32), spIter (fun _ => default) (m_maxRadius_b25 z ma) n v = (spIter (fun _ => default) (x_X8_maxRadius_b11 (z 0) (z 2) (iv 11) (av 0) (av 1) (av 2) ma) n v, 0) := by
    intro n
    induction n with
    | zero => intro v; rfl
    | succ n ih =>
      intro v
      show m_maxRadius_b25 z ma (spIter (fun _ => default) (m_maxRadius_b25 z ma) n) v = (x_X8_maxRadius_b11 (z 0) (z 2) (iv 11) (av 0) (av 1) (av 2) ma (spIter (fun _ => default) (x_X8_maxRadius_b11 (z 0) (z 2) (iv 11) (av 0) (av 1) (av 2) ma) n) v, 0)
      generalize spIter (fun _ => default) (m_maxRadius_b25 z ma) n = R1 at ih ⊢
      generalize spIter (fun _ => default) (x_X8_maxRadius_b11 (z 0) (z 2) (iv 11) (av 0) (av 1) (av 2) ma) n = R2 at ih ⊢
      have er := (q_rated hc hG (le := z 0) (ra := v) (sl := z 2) hG.c0.1 hG.c0.2 sl.1 (by omega)).1
      unfold m_maxRadius_b25 x_X8_maxRadius_b11 m_maxRadius_j59
      simp only [spLet_x, er]
      by_cases c : v < 300
      · rw [if_pos c, if_pos c, if_neg (Int32.not_le.mpr c)]
      · rw [if_neg c, if_neg c]
        by_cases d : m_ratedFor z (z 0) v (z 2) < ma
        · rw [if_pos d, if_neg (Int32.not_le.mpr d)]
          exact ih _
        · rw [if_neg d, if_pos (Int32.not_lt.mp d), if_pos (Int32.not_lt.mp c)]
  unfold m_maxRadius x_X8_maxRadius
  simp only [spLet_x]
  rw [in_1 h1, if_neg (by decide), a4, a6]
  exact key 2702 3000
theorem q_maxRadius_1 {ma : Int32} (h1 : ¬ okA ma 1 100000) : m_maxRadius z ma = (0, 1) := by
  unfold m_maxRadius m_fails
  simp only [spLet_x]
  rw [in_0 h1, if_pos rfl]
theorem q_events (h : relSt iv av z) : m_events z = (x_X8_events (iv 14), 0) := by
  obtain ⟨o, c, e1, e2, e3, e4, e5, e6⟩ := h.2.2.2.1
  unfold m_events x_X8_events
  rw [e2, e5]
theorem okI_ev (h : relSt iv av z) {ix : Int32} : okI ix (iv 14) ↔ okA ix 0 (z 143 - 1) := by
  obtain ⟨o, c, e1, e2, e3, e4, e5, e6⟩ := h.2.2.2.1
  have b := h.G.c143
  have e := zsub (x := z 143) (y := 1) rfl l_1 (by omega) (by omega)
  rw [e2, ← e5]
  exact okI_A (by omega)
theorem q_event (h : relSt iv av z) {ix wh : Int32} (h1 : okI ix (iv 14)) (h2 : okA wh 0 2) : m_event z ix wh = (x_X8_event (iv 13) (av 4) (av 5) (av 6) ix wh, 0) := by
  have hin := in_1 ((okI_ev h).mp h1)
  obtain ⟨o, c, e1, e2, e3, e4, e5, e6⟩ := h.2.2.2.1
  obtain ⟨i1, i2⟩ := okI_n h1
  rw [e2, nI_clamp (by omega)] at i2
  obtain ⟨w1, w2⟩ := okA_n (n := 2) (by decide) h2
  have es := slot_n e3 (i := ix.toNatClampNeg) (by omega)
  rw [← i1, ← e1] at es
  obtain ⟨r1, r2, r3⟩ := e6 ix.toNatClampNeg i2
  unfold m_event x_X8_event x_X3_part
  simp only [spLet_x, es]
  rw [hin, in_1 h2, if_neg (by decide), if_neg (by decide), nI_clamp (by omega), r1, r2, r3]
  rcases (show wh.toNatClampNeg = 0 ∨ wh.toNatClampNeg = 1 ∨ wh.toNatClampNeg = 2 by omega) with k | k | k
  · rw [k] at w1
    rw [w1, if_pos (show nI 0 = 0 from rfl)]; rfl
  · rw [k] at w1
    rw [w1, if_neg (show ¬ nI 1 = 0 by decide), if_pos (show nI 1 = 1 from rfl)]
    exact congrArg (fun q => (z q, (0 : Int32))) (show 144 + 3 * ix.toNatClampNeg + 1 = 145 + 3 * ix.toNatClampNeg by omega)
  · rw [k] at w1
    rw [w1, if_neg (show ¬ nI 2 = 0 by decide), if_neg (show ¬ nI 2 = 1 by decide)]
    exact congrArg (fun q => (z q, (0 : Int32))) (show 144 + 3 * ix.toNatClampNeg + 2 = 146 + 3 * ix.toNatClampNeg by omega)
theorem q_event_1 (h : relSt iv av z) {ix wh : Int32} (h1 : ¬ okI ix (iv 14)) : m_event z ix wh = (0, 1) := by
  have hin := in_0 (fun k => h1 ((okI_ev h).mpr k))
  unfold m_event m_fails
  simp only [spLet_x]
  rw [hin, if_pos rfl]
theorem q_event_2 (h : relSt iv av z) {ix wh : Int32} (h1 : okI ix (iv 14)) (h2 : ¬ okA wh 0 2) : m_event z ix wh = (0, 2) := by
  have hin := in_1 ((okI_ev h).mp h1)
  unfold m_event m_fails
  simp only [spLet_x]
  rw [hin, in_0 h2, if_neg (by decide), if_pos rfl]
theorem q_stateTime (h : relSt iv av z) {ks : Int32} (h1 : okA ks 0 3) : m_stateTime z ks = (x_X8_stateTime (av 7) ks, 0) := by
  obtain ⟨l1, l2, l3⟩ := h.2.2.2.2.1
  obtain ⟨w1, w2⟩ := okA_n (n := 3) (by decide) h1
  unfold m_stateTime x_X8_stateTime
  simp only [spLet_x]
  rw [in_1 h1, if_neg (by decide), l2 _ (by omega)]
theorem q_stateTime_1 {ks : Int32} (h1 : ¬ okA ks 0 3) : m_stateTime z ks = (0, 1) := by
  unfold m_stateTime m_fails
  simp only [spLet_x]
  rw [in_0 h1, if_pos rfl]
theorem q_lifts (h : relSt iv av z) {ks : Int32} (h1 : okA ks 0 7) : m_lifts z ks = (x_X8_lifts (av 8) ks, 0) := by
  obtain ⟨l1, l2, l3⟩ := h.2.2.2.2.1
  obtain ⟨w1, w2⟩ := okA_n (n := 7) (by decide) h1
  unfold m_lifts x_X8_lifts
  simp only [spLet_x]
  rw [in_1 h1, if_neg (by decide), l3 _ (by omega)]
theorem q_lifts_1 {ks : Int32} (h1 : ¬ okA ks 0 7) : m_lifts z ks = (0, 1) := by
  unfold m_lifts m_fails
  simp only [spLet_x]
  rw [in_0 h1, if_pos rfl]
theorem q_spectrum (h : relSt iv av z) (hn : n < 2000000000) (hb : bnd n z) : m_spectrum z = (x_X8_spectrum (av 8), 0) := by
  obtain ⟨l1, l2, l3⟩ := h.2.2.2.2.1
  have z0 : ((0 : Int64)).toInt = 0 := by decide
  have key : ∀ (m k : Nat) (v1 v3 : Int64), k + m = 9 → 0 ≤ v3.toInt → v3.toInt ≤ 2000000000 * (k : Int) → spIter (fun _ _ _ => default) (m_spectrum_b12 z) m v1 v3 k = (spIter (fun _ _ _ => default) (x_X6_loadSpectrum_b7 (av 8)) m v1 v3 k, 0) := by
    intro m
    induction m with
    | zero => intro k v1 v3 h1; intros; rfl
    | succ m ih =>
      intro k v1 v3 hk h1 h2
      show m_spectrum_b12 z (spIter (fun _ _ _ => default) (m_spectrum_b12 z) m) v1 v3 k = (x_X6_loadSpectrum_b7 (av 8) (spIter (fun _ _ _ => default) (x_X6_loadSpectrum_b7 (av 8)) m) v1 v3 k, 0)
      generalize spIter (fun _ _ _ => default) (m_spectrum_b12 z) m = R1 at ih ⊢
      generalize spIter (fun _ _ _ => default) (x_X6_loadSpectrum_b7 (av 8)) m = R2 at ih ⊢
      unfold m_spectrum_b12 x_X6_loadSpectrum_b7
      simp only [spLet_x]
      by_cases c : 8 ≤ k
      · rw [if_pos c, if_pos c]
        by_cases d : lg_cmp v3 0 = 0
        · rw [if_pos d, if_neg (by rw [d]; decide)]
        · have d2 : ¬ v3 = 0 := fun e => d ((lg_cmp_eq v3 0).mpr e)
          have d3 : (0 : Int64) < v3 := Int64.lt_iff_toInt_lt.mpr (by
            rcases Int.lt_or_eq_of_le h1 with k | k
            · omega
            · exact absurd (Int64.toInt_inj.mp (by omega : v3.toInt = ((0 : Int64)).toInt)) d2)
          rw [if_neg d, if_pos ((lg_cmp_gt v3 0).mpr d3)]
      · rw [if_neg c, if_neg c, l3 k (by omega)]
        obtain ⟨b1, b2⟩ := hb k (by omega)
        have e := ladd' (x := v3) (y := (z (238 + k)).toInt64) rfl (zi2l rfl) (by omega) (by omega)
        exact ih (k + 1) _ _ (by omega) (by rw [e]; omega) (by rw [e]; omega)
  unfold m_spectrum x_X8_spectrum x_X6_loadSpectrum
  rw [spLet_x]
  exact key 9 0 0 0 rfl (by decide) (by decide)
theorem q_permNow (h : relSt iv av z) (mm mr : Int32) (zp : Nat → Int32) : (m_permittedNow mm mr z zp).1 = x_X8_permitted (iv 0) (iv 4) (iv 5) (iv 6) (iv 7) (iv 8) (iv 9) (iv 10) (iv 11) (av 0) (av 1) (av 2) (iv 12) (av 3) := by
  obtain ⟨⟨a0, a1, a2, a3, a4, a5, a6, a7, a8, a9, a10⟩, hr⟩ := h
  have key : ∀ (m k : Nat) (v mm mr : Int32) (zp : Nat → Int32), k + m = 9 → (spIter (fun _ _ _ _ _ => default) (m_permittedNow_b4 z) m v k mm mr zp).1 = spIter (fun _ _ => default) (x_X8_permitted_b4 (z 7) (z 0) (z 1) (z 2) (z 3) (z 4) (z 6) (z 5) (iv 11) (av 0) (av 1) (av 2) (iv 12) (av 3)) m v k := by
    intro m
    induction m with
    | zero => intro k v mm mr zp hk; rfl
    | succ m ih =>
      intro k v mm mr zp hk
      show (m_permittedNow_b4 z (spIter (fun _ _ _ _ _ => default) (m_permittedNow_b4 z) m) v k mm mr zp).1 = x_X8_permitted_b4 (z 7) (z 0) (z 1) (z 2) (z 3) (z 4) (z 6) (z 5) (iv 11) (av 0) (av 1) (av 2) (iv 12) (av 3) (spIter (fun _ _ => default) (x_X8_permitted_b4 (z 7) (z 0) (z 1) (z 2) (z 3) (z 4) (z 6) (z 5) (iv 11) (av 0) (av 1) (av 2) (iv 12) (av 3)) m) v k
      generalize spIter (fun _ _ _ _ _ => default) (m_permittedNow_b4 z) m = R1 at ih ⊢
      generalize spIter (fun _ _ => default) (x_X8_permitted_b4 (z 7) (z 0) (z 1) (z 2) (z 3) (z 4) (z 6) (z 5) (iv 11) (av 0) (av 1) (av 2) (iv 12) (av 3)) m = R2 at ih ⊢
      unfold m_permittedNow_b4 x_X8_permitted_b4 m_permittedNow_j26 x_X8_permitted_j24
      by_cases c : 8 ≤ k
      · rw [if_pos c, if_pos c]
      · have ek := nI_toInt (n := k) (by omega)
        have ep := q_permitted hr.1 hr.2.1 hr.G (mo := nI k) (by omega) (by omega)
        rw [if_neg c, if_neg c]
        simp only [spLet_x, ep, per_m]
        by_cases d : perM z (nI k) = 0
        · rw [if_pos d, if_pos d, Int32.or_zero]
          exact ih (k + 1) v _ _ _ (by omega)
        · rw [if_neg d, if_neg d]
          exact ih (k + 1) _ _ _ _ (by omega)
  unfold m_permittedNow x_X8_permitted
  rw [a0, a4, a5, a6, a7, a8, a9, a10]
  exact key 9 0 0 mm mr zp rfl
theorem q_permittedC (h : relSt iv av z) (mm mr : Int32) (zp : Nat → Int32) : ∃ mm' mr' zp', m_permitted mm mr z zp = (x_X8_permitted (iv 0) (iv 4) (iv 5) (iv 6) (iv 7) (iv 8) (iv 9) (iv 10) (iv 11) (av 0) (av 1) (av 2) (iv 12) (av 3), 0, mm', mr', zp') := by
  have e := q_permNow h mm mr zp
  refine ⟨(m_permittedNow mm mr z zp).2.1, (m_permittedNow mm mr z zp).2.2.1, (m_permittedNow mm mr z zp).2.2.2, ?_⟩
  unfold m_permitted
  rw [spLet_x, ← e]
end RD

/-! both sides: worst slew, undo, text, filled tables -/
section WS
variable {iv : Nat → Int32} {av : Nat → Nat → Int32} {z : Nat → Int32} {n : Nat}
theorem utiliz_ge {ld rt : Int32} (h0 : 0 ≤ ld.toInt) (h1 : 0 ≤ rt.toInt) : 0 ≤ (m_utilizationOf ld rt).toInt := by
  have z9 : ((9999 : Int64)).toInt = 9999 := by decide
  have z10 : ((1000 : Int64)).toInt = 1000 := by decide
  have b := fb_rng ld
  have b2 := fb_rng rt
  unfold m_utilizationOf
  split
  · exact Int.le_of_eq l_0.symm
  · split
    · decide
    · rename_i c
      have d : 0 < rt.toInt := by
        rcases Int.lt_or_eq_of_le h1 with k | k
        · exact k
        · exact absurd (Int32.toInt_inj.mp (by rw [l_0]; omega)) c
      have e := ldiv' (lmul' z10 (zi2l (x := ld) rfl) (by omega) (by omega)) (zi2l (x := rt) rfl) (by omega) d
      rw [spLet_x]
      have q0 : 0 ≤ 1000 * ld.toInt / rt.toInt := Int.ediv_nonneg (by omega) (by omega)
      split
      · rename_i f
        have f2 := Int64.le_iff_toInt_le.mp ((lg_cmp_le _ _).mp f)
        rw [e, z9] at f2
        rw [zl2i e (by omega) (by omega)]
        exact q0
      · decide
theorem q_worst (h : relSt iv av z) {fr to wh : Int32} (h1 : okA fr 0 3599) (h2 : okA to 0 3599) (h3 : okA wh 0 1) (mm mr : Int32) : ∃ mm' mr', m_worstSlew mm mr z fr to wh = (x_X8_worstSlew (iv 4) (iv 5) (iv 8) (iv 9) (iv 10) (iv 11) (av 0) (av 1) (av 2) fr to wh, 0, mm', mr') := by
  obtain ⟨⟨a0, a1, a2, a3, a4, a5, a6, a7, a8, a9, a10⟩, hr⟩ := h
  have hG := hr.G
  have hc := hr.1
  have z35 : ((3599 : Int32)).toInt = 3599 := by decide
  obtain ⟨f0, f1⟩ := h1
  obtain ⟨t0, t1⟩ := h2
  rw [l_0] at f0 t0
  rw [z35] at f1 t1
  have ew := clock_e (fr := fr) (to := to) f0 (by omega) t0 (by omega)
  have ew2 := zrem (zadd (zsub (x := to) (y := fr) rfl rfl (by omega) (by omega)) l_3600 (by omega) (by omega)) l_3600 (by omega) (by omega)
  have eway : to - fr + 3600 - (to - fr + 3600) / 3600 * 3600 = x_X8_clockwise fr to := Int32.toInt_inj.mp (ew2.trans ew.symm)
  obtain ⟨wn, wl⟩ := cw_n (fr := fr) (to := to) ⟨by rw [l_0]; exact f0, by rw [z35]; exact f1⟩ ⟨by rw [l_0]; exact t0, by rw [z35]; exact t1⟩
  have em : m_measure mr z = (mMas z, mRad z) := measure_e mr z
  have ln := hG.c0
  have key : ∀ (m k : Nat) (v5 v6 w6 : Int32), k ≤ 3650 → 3650 < k + 50 * m → ((k = 0 ∧ v5 = -1) ∨ v6 = w6) →
      spIter (fun _ _ _ => default) (m_worstSlew_b68 z fr wh (x_X8_clockwise fr to) (mMas z, mRad z)) m v5 w6 k = (spIter (fun _ _ _ => default) (x_X8_worstSlew_b44 (z 0) (iv 11) (av 0) (av 1) (av 2) fr wh (m_pressure z, mMas z, mRad z, m_netLoad (mMas z) z) (x_X8_clockwise fr to)) m v5 v6 k, 0, mMas z, mRad z) := by
    intro m
    induction m with
    | zero => intro k v5 v6 w6 a b; omega
    | succ m ih =>
      intro k v5 v6 w6 a b hv
      show m_worstSlew_b68 z fr wh (x_X8_clockwise fr to) (mMas z, mRad z) (spIter (fun _ _ _ => default) (m_worstSlew_b68 z fr wh (x_X8_clockwise fr to) (mMas z, mRad z)) m) v5 w6 k = (x_X8_worstSlew_b44 (z 0) (iv 11) (av 0) (av 1) (av 2) fr wh (m_pressure z, mMas z, mRad z, m_netLoad (mMas z) z) (x_X8_clockwise fr to) (spIter (fun _ _ _ => default) (x_X8_worstSlew_b44 (z 0) (iv 11) (av 0) (av 1) (av 2) fr wh (m_pressure z, mMas z, mRad z, m_netLoad (mMas z) z) (x_X8_clockwise fr to)) m) v5 v6 k, 0, mMas z, mRad z)
      generalize spIter (fun _ _ _ => default) (m_worstSlew_b68 z fr wh (x_X8_clockwise fr to) (mMas z, mRad z)) m = R1 at ih ⊢
      generalize spIter (fun _ _ _ => default) (x_X8_worstSlew_b44 (z 0) (iv 11) (av 0) (av 1) (av 2) fr wh (m_pressure z, mMas z, mRad z, m_netLoad (mMas z) z) (x_X8_clockwise fr to)) m = R2 at ih ⊢
      unfold m_worstSlew_b68 x_X8_worstSlew_b44 m_worstSlew_j107 x_X8_worstSlew_j121
      by_cases c : (x_X8_clockwise fr to).toNatClampNeg < k
      · have hv2 : v6 = w6 := hv.resolve_left fun q => by omega
        rw [if_pos c, if_pos c, hv2]
        split <;> rfl
      · rw [if_neg c, if_neg c]
        have ek := nI_toInt (n := k) (by omega)
        have es := zrem (zadd (x := fr) (y := nI k) rfl ek (by omega) (by omega)) l_3600 (by omega) (by omega)
        obtain ⟨er, r0, r1⟩ := q_rated hc hG (le := z 0) (ra := mRad z) (sl := fr + nI k - (fr + nI k) / 3600 * 3600) ln.1 ln.2 (by omega) (by omega)
        have eu := q_utiliz (ld := m_netLoad (mMas z) z) (net_r _) r0
        have ug := utiliz_ge (ld := m_netLoad (mMas z) z) (net_r _) r0
        simp only [spLet_x, er, eu, utilAt_e]
        generalize m_utilizationOf (m_netLoad (mMas z) z) (m_ratedFor z (z 0) (mRad z) (fr + nI k - (fr + nI k) / 3600 * 3600)) = q at ug ⊢
        by_cases d : q ≤ v5
        · have hk : ¬ (k = 0 ∧ v5 = -1) := fun e => by
            have := Int32.le_iff_toInt_le.mp d
            rw [e.2, show ((-1 : Int32)).toInt = -1 by decide] at this
            omega
          rw [if_pos d, if_pos d]
          have eg : m_greater v5 q = v5 := by
            unfold m_greater
            by_cases f : v5 ≤ q
            · rw [if_pos f]; exact Int32.le_antisymm d f
            · rw [if_neg f]
          rw [eg]
          exact ih (k + 50) v5 v6 w6 (by omega) (by omega) (Or.inr (hv.resolve_left hk))
        · rw [if_neg d, if_neg d]
          have eg : m_greater v5 q = q := by
            unfold m_greater
            rw [if_pos (Int32.le_of_lt (Int32.not_le.mp d))]
          rw [eg]
          exact ih (k + 50) q _ _ (by omega) (by omega) (Or.inr rfl)
  refine ⟨mMas z, mRad z, ?_⟩
  unfold m_worstSlew x_X8_worstSlew
  rw [a4, a5, a8, a9, a10]
  simp only [spLet_x, q_read hG, em, eway]
  rw [in_1 ⟨by rw [l_0]; exact f0, by rw [z35]; exact f1⟩, in_1 ⟨by rw [l_0]; exact t0, by rw [z35]; exact t1⟩, in_1 h3, if_neg (by decide), if_neg (by decide), if_neg (by decide)]
  exact key 74 0 (-1) fr (-1) (by omega) (by omega) (Or.inl ⟨rfl, rfl⟩)
theorem q_worst_1 {fr to wh : Int32} (h : ¬ (okA fr 0 3599 ∧ okA to 0 3599 ∧ okA wh 0 1)) (mm mr : Int32) : m_worstSlew mm mr z fr to wh = (0, 1, mm, mr) := by
  have ej : m_worstSlew_j36 mm mr = (0, 1, mm, mr) := by
    unfold m_worstSlew_j36 m_fails
    simp only [spLet_x]
  unfold m_worstSlew
  simp only [spLet_x, ej]
  by_cases h1 : okA fr 0 3599
  · rw [in_1 h1, if_neg (by decide)]
    by_cases h2 : okA to 0 3599
    · rw [in_1 h2, if_neg (by decide), in_0 (fun k => h ⟨h1, h2, k⟩), if_pos rfl]
    · rw [in_0 h2, if_pos rfl]
  · rw [in_0 h1, if_pos rfl]
/-- undo -/
def unR (zs zv : Nat → Int32) (s k : Nat) : Nat → Int32 := fun q => if k ≤ q ∧ q < 246 then zv (246 * s + q) else zs q
theorem un_s (zs zv : Nat → Int32) (s k : Nat) (hk : k < 246) : unR (upd zs k (zv (246 * s + k))) zv s (k + 1) = unR zs zv s k := by
  funext q
  unfold unR upd
  by_cases h : q = k
  · subst h
    rw [if_neg (by omega), if_pos rfl, if_pos (by omega)]
  · by_cases h2 : k + 1 ≤ q ∧ q < 246
    · rw [if_pos h2, if_pos (by omega)]
    · rw [if_neg h2, if_neg h, if_neg (by omega)]
theorem un_loop (zv : Nat → Int32) (x : Int32) : ∀ (m k : Nat) (w : Nat → Int32), k ≤ 246 → 246 < k + m → spIter (fun _ _ => default) (m_undo_b30 zv x) m k w = (x, x, 0, unR w zv x.toNatClampNeg k) := by
  intro m
  induction m with
  | zero => intro k w h h1; omega
  | succ m ih =>
    intro k w h h1
    show m_undo_b30 zv x (spIter (fun _ _ => default) (m_undo_b30 zv x) m) k w = _
    generalize spIter (fun _ _ => default) (m_undo_b30 zv x) m = R at ih ⊢
    unfold m_undo_b30
    simp only [spLet_x]
    by_cases c : 246 ≤ k
    · have e : unR w zv x.toNatClampNeg k = w := by
        funext q
        unfold unR
        rw [if_neg (by omega)]
      rw [if_pos c, e]
    · rw [if_neg c]
      have := ih (k + 1) (upd w k (zv (246 * x.toNatClampNeg + k))) (by omega) (by omega)
      rw [un_s w zv _ k (by omega)] at this
      exact this
theorem sub1_n {s : Nat} (h : 0 < s) (h2 : s ≤ 4) : nI s - 1 = nI (s - 1) := by
  rcases (show s = 1 ∨ s = 2 ∨ s = 3 ∨ s = 4 by omega) with rfl | rfl | rfl | rfl <;> rfl
theorem q_undo {svc svn svm : Int32} {ro : Nat → Option rowT} {zv : Nat → Int32} {n : Nat} (h : savR svc svn ro svm zv n) (h1 : okS (if svc ≤ 0 then (0 : Int32) else 1)) :
    ∃ A w a iv av, m_undo svm z zv = (A, A, 0, w) ∧ x_X8_undo svc svn = (A, A, j_J9_floorMod_7cf53 (svn - 1) 4) ∧ ro (j_J9_floorMod_7cf53 (svn - 1) 4).toNatClampNeg = some (a, iv, av) ∧ relSt iv av w ∧ bnd n w ∧ savR A (j_J9_floorMod_7cf53 (svn - 1) 4) ro A zv n := by
  obtain ⟨s, p, e1, e2, e3, h4, hp4, hrows⟩ := h
  have c := okS_if'.mp h1
  have es := nI_toInt (n := s) (by omega)
  have s0 : 0 < s := by
    have : ¬ svc.toInt ≤ 0 := fun k => c ((le_i l_0).mpr k)
    rw [e1, es] at this
    omega
  have ep : svn.toNatClampNeg = p := by rw [e3, nI_clamp (by omega)]
  have ef := fm4_e (x := svn) (by rw [ep]; exact e3) (by omega)
  rw [ep] at ef
  have em : svm.toNatClampNeg = s := by rw [e2, nI_clamp (by omega)]
  obtain ⟨a, iv, av, r1, r2, r3⟩ := hrows (s - 1) (by omega)
  have ee : ∀ q, q < 246 → unR z zv (s - 1) 0 q = zv (246 * (s - 1) + q) := fun q hq => by
    unfold unR
    rw [if_pos (by omega)]
  refine ⟨nI (s - 1), unR z zv (s - 1) 0, a, iv, av, ?_, ?_, ?_, r2.cong ee, r3.cong ee, ?_⟩
  · unfold m_undo
    rw [em, if_neg (by omega), spLet_x, e2, sub1_n s0 h4, un_loop zv (nI (s - 1)) 247 0 z (by omega) (by omega), nI_clamp (by omega)]
  · unfold x_X8_undo x_X8_undo_j12
    rw [if_neg c]
    simp only [spLet_x]
    rw [e1, sub1_n s0 h4]
  · rw [ef, nI_clamp (by omega), ← r1]
    exact congrArg _ (by omega)
  · refine ⟨s - 1, (p + 3) % 4, rfl, rfl, ef, by omega, by omega, fun j hj => ?_⟩
    obtain ⟨a', iv', av', q1, q2, q3⟩ := hrows j (by omega)
    refine ⟨a', iv', av', ?_, q2, q3⟩
    rw [← q1]
    exact congrArg _ (by omega)
theorem q_undo_1 {svc svn svm : Int32} {ro : Nat → Option rowT} {zv : Nat → Int32} {n : Nat} (h : savR svc svn ro svm zv n) (h1 : ¬ okS (if svc ≤ 0 then (0 : Int32) else 1)) : m_undo svm z zv = (0, svm, 1, z) := by
  obtain ⟨s, p, e1, e2, e3, h4, hp4, hrows⟩ := h
  have c : svc ≤ 0 := Decidable.not_not.mp (mt okS_if'.mpr h1)
  have es := nI_toInt (n := s) (by omega)
  have s0 : s = 0 := by
    have := (le_i l_0).mp c
    rw [e1, es] at this
    omega
  have em : svm.toNatClampNeg = s := by rw [e2, nI_clamp (by omega)]
  unfold m_undo m_fails
  rw [em, if_pos s0, spLet_x]
/-- text -/
theorem q_type {tl va : Int32} {xf zt : Nat → Int32} (h1 : okA va 0 127) (ht : tl = nI tl.toNatClampNeg) (h8 : tl.toNatClampNeg ≤ 80) (h2 : okS (if 80 ≤ tl.toNatClampNeg then (0 : Int32) else 1)) (he : ∀ k, k < 80 → xf k = zt k) :
    ∃ A xf' zt', m_type tl zt va = (A, A, 0, zt') ∧ x_X8_type tl xf va = (A, A, xf') ∧ A = nI A.toNatClampNeg ∧ A.toNatClampNeg ≤ 80 ∧ ∀ k, k < 80 → xf' k = zt' k := by
  have c := okS_if'.mp h2
  refine ⟨nI (tl.toNatClampNeg + 1), upd xf tl.toNatClampNeg va, upd zt tl.toNatClampNeg va, ?_, ?_, ?_, ?_, fun k hk => ?_⟩
  · unfold m_type
    simp only [spLet_x]
    rw [in_1 h1, if_neg (by decide), if_neg (by omega)]
  · unfold x_X8_type x_X8_type_j24 x_X8_type_j66
    rw [if_neg c, spLet_x]
  · rw [nI_clamp (by omega)]
  · rw [nI_clamp (by omega)]; omega
  · by_cases e : k = tl.toNatClampNeg
    · rw [e, upd_s, upd_s]
    · rw [upd_o _ _ _ e, upd_o _ _ _ e, he k hk]
theorem q_type_1 {tl va : Int32} {zt : Nat → Int32} (h1 : ¬ okA va 0 127) : m_type tl zt va = (0, tl, 1, zt) := by
  unfold m_type m_fails
  simp only [spLet_x]
  rw [in_0 h1, if_pos rfl]
theorem q_type_2 {tl va : Int32} {zt : Nat → Int32} (h1 : okA va 0 127) (h8 : tl.toNatClampNeg ≤ 80) (h2 : ¬ okS (if 80 ≤ tl.toNatClampNeg then (0 : Int32) else 1)) : m_type tl zt va = (0, tl, 2, zt) := by
  have c : 80 ≤ tl.toNatClampNeg := Decidable.not_not.mp (mt okS_if'.mpr h2)
  unfold m_type m_fails
  simp only [spLet_x]
  rw [in_1 h1, if_neg (by decide), if_pos (by omega)]
end WS

/-! both sides: sums of tables and filled tables -/
def accs (f : Nat → Int32) : Nat → Int32 → Nat → Int32
  | 0, v, _ => v
  | m + 1, v, c => accs f m (v + f c) (c + 1)
theorem accs_add (f : Nat → Int32) : ∀ (a b : Nat) (v : Int32) (c : Nat), accs f (a + b) v c = accs f b (accs f a v c) (c + a) := by
  intro a
  induction a with
  | zero => intro b v c; rw [Nat.zero_add]; rfl
  | succ a ih =>
    intro b v c
    rw [show a + 1 + b = (a + b) + 1 by omega]
    show accs f (a + b) (v + f c) (c + 1) = accs f b (accs f a (v + f c) (c + 1)) (c + (a + 1))
    rw [ih, show c + 1 + a = c + (a + 1) by omega]
theorem accs_cong {f g : Nat → Int32} : ∀ (m : Nat) (v : Int32) (c d : Nat), (∀ j, j < m → f (c + j) = g (d + j)) → accs f m v c = accs g m v d := by
  intro m
  induction m with
  | zero => intro v c d h; rfl
  | succ m ih =>
    intro v c d h
    show accs f m (v + f c) (c + 1) = accs g m (v + g d) (d + 1)
    have h0 := h 0 (by omega)
    rw [Nat.add_zero, Nat.add_zero] at h0
    rw [h0]
    exact ih _ _ _ fun j hj => by
      have := h (j + 1) (by omega)
      rw [show c + 1 + j = c + (j + 1) by omega, show d + 1 + j = d + (j + 1) by omega]
      exact this
theorem sum_m (z : Nat → Int32) (ta : Int32) : ∀ (n k : Nat) (v : Int32), k ≤ 24 → 24 < k + n → spIter (fun _ _ => default) (m_sumOf_p_b4 z ta) n v k = accs (fun k => z (47 + 24 * ta.toNatClampNeg + k)) (24 - k) v k := by
  intro n
  induction n with
  | zero => intro k v h1 h2; omega
  | succ n ih =>
    intro k v h1 h2
    show m_sumOf_p_b4 z ta (spIter (fun _ _ => default) (m_sumOf_p_b4 z ta) n) v k = _
    generalize spIter (fun _ _ => default) (m_sumOf_p_b4 z ta) n = R at ih ⊢
    unfold m_sumOf_p_b4
    by_cases c : 24 ≤ k
    · rw [if_pos c, show 24 - k = 0 by omega]; rfl
    · rw [if_neg c, spLet_x, show 24 - k = (24 - (k + 1)) + 1 by omega]
      exact ih (k + 1) _ (by omega) (by omega)
theorem sum_i (cv : Nat → Int32) {ta : Int32} {t : Nat} (ht : ta = nI t) (t4 : t < 4) (r : Nat) (hr : r < 4) (R : Int32 → Nat → Int32) : ∀ (n c : Nat) (v : Int32), c ≤ 6 → 6 < c + n → spIter (fun _ _ => default) (x_X1_sum_b12 cv ta r R) n v c = R (accs (fun k => cv (24 * t + k)) (6 - c) v (6 * r + c)) (r + 1) := by
  intro n
  induction n with
  | zero => intro k v h1 h2; omega
  | succ n ih =>
    intro c v h1 h2
    show x_X1_sum_b12 cv ta r R (spIter (fun _ _ => default) (x_X1_sum_b12 cv ta r R) n) v c = _
    generalize spIter (fun _ _ => default) (x_X1_sum_b12 cv ta r R) n = R2 at ih ⊢
    unfold x_X1_sum_b12
    by_cases d : 6 ≤ c
    · rw [if_pos d, show 6 - c = 0 by omega]; rfl
    · have hv := x_val (cv := cv) (zs := fun q => cv (q - 47)) (fun k hk => by show cv k = cv (47 + k - 47); rw [Nat.add_sub_cancel_left]) (t := t) (i := r) (j := c) t4 hr (by omega)
      rw [← ht] at hv
      rw [if_neg d, spLet_x, spLet_x, hv, show 6 - c = (6 - (c + 1)) + 1 by omega]
      have e : cv (47 + 24 * t + 6 * r + c - 47) = cv (24 * t + (6 * r + c)) := congrArg cv (by omega)
      rw [e]
      exact ih (c + 1) _ (by omega) (by omega)
theorem sum_o (cv : Nat → Int32) {ta : Int32} {t : Nat} (ht : ta = nI t) (t4 : t < 4) : ∀ (n r : Nat) (v : Int32), r ≤ 4 → 4 < r + n → spIter (fun _ _ => default) (x_X1_sum_b4 cv ta) n v r = accs (fun k => cv (24 * t + k)) (24 - 6 * r) v (6 * r) := by
  intro n
  induction n with
  | zero => intro k v h1 h2; omega
  | succ n ih =>
    intro r v h1 h2
    show x_X1_sum_b4 cv ta (spIter (fun _ _ => default) (x_X1_sum_b4 cv ta) n) v r = _
    generalize spIter (fun _ _ => default) (x_X1_sum_b4 cv ta) n = R at ih ⊢
    unfold x_X1_sum_b4
    by_cases d : 4 ≤ r
    · rw [if_pos d, show 24 - 6 * r = 0 by omega]; rfl
    · rw [if_neg d, sum_i cv ht t4 r (by omega) R 7 0 v (by omega) (by omega), ih (r + 1) _ (by omega) (by omega)]
      rw [show 24 - 6 * r = 6 + (24 - 6 * (r + 1)) by omega, accs_add]
      rfl
theorem q_sum {cv z : Nat → Int32} (h : ∀ k, k < 96 → cv k = z (47 + k)) {ta : Int32} (ht : ta = nI ta.toNatClampNeg) (t4 : ta.toNatClampNeg < 4) : x_X1_sum cv ta = m_sumOf_p z ta := by
  unfold x_X1_sum m_sumOf_p
  rw [sum_m z ta 25 0 0 (by omega) (by omega), sum_o cv ht t4 5 0 0 (by omega) (by omega)]
  exact accs_cong 24 0 0 0 fun j hj => by
    rw [h _ (by omega)]
    exact congrArg z (by omega)
/-- the value that fills a place -/
def fV (mo : Int32) (r c : Nat) : Int32 := m_lesser 100000 (1000 * mo / tRad c) * (10 - nI r) / 10
theorem fV_r {mo : Int32} (h : okA mo 0 1000000) {r c : Nat} (hr : r < 4) (hc : c < 6) : 0 ≤ (fV mo r c).toInt ∧ (fV mo r c).toInt ≤ 100000 := by
  obtain ⟨h1, h2⟩ := h
  rw [l_0] at h1
  rw [show ((1000000 : Int32)).toInt = 1000000 by decide] at h2
  have z3 : ((1000 : Int32)).toInt = 1000 := by decide
  have z10 : ((10 : Int32)).toInt = 10 := by decide
  have z5 : ((100000 : Int32)).toInt = 100000 := by decide
  have rb : 300 ≤ (tRad c).toInt := by
    rcases (show c < 5 ∨ c = 5 by omega) with k | k
    · exact (rad_b c k).1
    · rw [k]; decide
  have e1 := zdiv (zmul z3 (x := 1000) (y := mo) rfl (by omega) (by omega)) (y := tRad c) rfl (by omega) (by omega)
  have q0 : 0 ≤ 1000 * mo.toInt / (tRad c).toInt := Int.ediv_nonneg (by omega) (by omega)
  have e2 : (m_lesser 100000 (1000 * mo / tRad c)).toInt = min 100000 (1000 * mo.toInt / (tRad c).toInt) := by rw [lesser_r, z5, e1]
  have e3 := zsub z10 (nI_toInt (n := r) (by omega)) (by omega) (by omega)
  obtain ⟨m0, m1⟩ := mulb (a := min 100000 (1000 * mo.toInt / (tRad c).toInt)) (A := 100000) (b := 10 - (r : Int)) (B := 10) (by omega) (by omega) (by omega) (by omega)
  have e4 := zdiv (zmul e2 e3 (by omega) (by omega)) z10 (by omega) (by omega)
  unfold fV
  rw [e4]
  omega
def flM (z : Nat → Int32) (mo : Int32) (b k : Nat) : Nat → Int32 := fun q => if b + k ≤ q ∧ q < b + 24 then fV mo ((q - b) / 6) ((q - b) % 6) else z q
theorem div6_d : ∀ k, k < 24 → nI k / 6 = nI (k / 6) ∧ nI k - nI k / 6 * 6 = nI (k % 6) := by decide
theorem fill_m (ta mo : Int32) (u : Int32 × (Nat → Int32)) : ∀ (n k : Nat) (w : Nat → Int32), k ≤ 24 → 24 < k + n → spIter (fun _ _ => default) (m_fillTable_b42 ta mo u) n k w = (m_sumOf_p (flM w mo (47 + 24 * ta.toNatClampNeg) k) ta, u.1, 0, flM w mo (47 + 24 * ta.toNatClampNeg) k, u.2) := by
  intro n
  induction n with
  | zero => intro k w h1 h2; omega
  | succ n ih =>
    intro k w h1 h2
    show m_fillTable_b42 ta mo u (spIter (fun _ _ => default) (m_fillTable_b42 ta mo u) n) k w = _
    generalize spIter (fun _ _ => default) (m_fillTable_b42 ta mo u) n = R at ih ⊢
    unfold m_fillTable_b42
    by_cases c : 24 ≤ k
    · have e : flM w mo (47 + 24 * ta.toNatClampNeg) k = w := by
        funext q
        unfold flM
        rw [if_neg (by omega)]
      rw [if_pos c, spLet_x, e]
    · obtain ⟨d1, d2⟩ := div6_d k (by omega)
      rw [if_neg c]
      simp only [spLet_x]
      rw [d2, d1, col_t _ (by omega)]
      rw [ih (k + 1) _ (by omega) (by omega)]
      have e : flM (upd w (47 + 24 * ta.toNatClampNeg + k) (m_lesser 100000 (1000 * mo / tRad (k % 6)) * (10 - nI (k / 6)) / 10)) mo (47 + 24 * ta.toNatClampNeg) (k + 1) = flM w mo (47 + 24 * ta.toNatClampNeg) k := by
        funext q
        unfold flM upd
        by_cases h : q = 47 + 24 * ta.toNatClampNeg + k
        · rw [if_neg (by omega), if_pos h, if_pos (by omega), h, Nat.add_sub_cancel_left]
          rfl
        · by_cases h2 : 47 + 24 * ta.toNatClampNeg + (k + 1) ≤ q ∧ q < 47 + 24 * ta.toNatClampNeg + 24
          · rw [if_pos h2, if_pos (by omega)]
          · rw [if_neg h2, if_neg h, if_neg (by omega)]
      rw [e]
def flR (w : Nat → Int32) (mo : Int32) (b c r : Nat) : Nat → Int32 := fun q => if b + 6 * r + c ≤ q ∧ q < b + 24 ∧ (q - b) % 6 = c then fV mo ((q - b) / 6) c else w q
def flC (w : Nat → Int32) (mo : Int32) (b c : Nat) : Nat → Int32 := fun q => if b ≤ q ∧ q < b + 24 ∧ c ≤ (q - b) % 6 then fV mo ((q - b) / 6) ((q - b) % 6) else w q
theorem fill_i {ta mo : Int32} {t : Nat} (ht : ta = nI t) (t4 : t < 4) (c : Nat) (hc : c < 6) (R : Nat → (Nat → Int32) → (Nat → Int32)) : ∀ (n r : Nat) (w : Nat → Int32), r ≤ 4 → 4 < r + n → spIter (fun _ _ => default) (x_X1_fill_b44 ta c R (m_lesser 100000 (1000 * mo / tRad c))) n r w = R (c + 1) (flR w mo (24 * t) c r) := by
  intro n
  induction n with
  | zero => intro k w h1 h2; omega
  | succ n ih =>
    intro r w h1 h2
    show x_X1_fill_b44 ta c R (m_lesser 100000 (1000 * mo / tRad c)) (spIter (fun _ _ => default) (x_X1_fill_b44 ta c R (m_lesser 100000 (1000 * mo / tRad c))) n) r w = _
    generalize spIter (fun _ _ => default) (x_X1_fill_b44 ta c R (m_lesser 100000 (1000 * mo / tRad c))) n = R2 at ih ⊢
    unfold x_X1_fill_b44
    by_cases d : 4 ≤ r
    · have e : flR w mo (24 * t) c r = w := by
        funext q
        unfold flR
        rw [if_neg (by omega)]
      rw [if_pos d, e]
    · have hp := put_val (cv := w) (t := t) (i := r) (j := c) t4 (by omega) hc (m_lesser 100000 (1000 * mo / tRad c) * (10 - nI r) / 10)
      rw [← ht] at hp
      rw [if_neg d, spLet_x, hp, ih (r + 1) _ (by omega) (by omega)]
      have e : flR (upd w (24 * t + 6 * r + c) (m_lesser 100000 (1000 * mo / tRad c) * (10 - nI r) / 10)) mo (24 * t) c (r + 1) = flR w mo (24 * t) c r := by
        funext q
        unfold flR upd
        by_cases h : q = 24 * t + 6 * r + c
        · rw [if_neg (by omega), if_pos h, if_pos (by omega), show (q - 24 * t) / 6 = r by omega]
          rfl
        · by_cases h2 : 24 * t + 6 * (r + 1) + c ≤ q ∧ q < 24 * t + 24 ∧ (q - 24 * t) % 6 = c
          · rw [if_pos h2, if_pos (by omega)]
          · rw [if_neg h2, if_neg h, if_neg (by omega)]
      rw [e]
theorem fill_o {ta mo : Int32} {t : Nat} (ht : ta = nI t) (t4 : t < 4) : ∀ (n c : Nat) (w : Nat → Int32), c ≤ 6 → 6 < c + n → spIter (fun _ _ => default) (x_X1_fill_b2 ta mo) n c w = flC w mo (24 * t) c := by
  intro n
  induction n with
  | zero => intro k w h1 h2; omega
  | succ n ih =>
    intro c w h1 h2
    show x_X1_fill_b2 ta mo (spIter (fun _ _ => default) (x_X1_fill_b2 ta mo) n) c w = _
    generalize spIter (fun _ _ => default) (x_X1_fill_b2 ta mo) n = R at ih ⊢
    unfold x_X1_fill_b2 x_X1_fill_j39
    by_cases d : 6 ≤ c
    · have e : flC w mo (24 * t) c = w := by
        funext q
        unfold flC
        rw [if_neg (by omega)]
      rw [if_pos d, e]
    · have rb : 0 < tRad c := by
        rcases (show c = 0 ∨ c = 1 ∨ c = 2 ∨ c = 3 ∨ c = 4 ∨ c = 5 by omega) with rfl | rfl | rfl | rfl | rfl | rfl <;> decide
      rw [if_neg d, spLet_x, if_pos rb, ← lesser_lt, fill_i ht t4 c (by omega) R 5 0 w (by omega) (by omega), ih (c + 1) _ (by omega) (by omega)]
      funext q
      unfold flC flR
      by_cases h2 : 24 * t ≤ q ∧ q < 24 * t + 24 ∧ c + 1 ≤ (q - 24 * t) % 6
      · rw [if_pos h2, if_pos (by omega)]
      · rw [if_neg h2]
        by_cases h3 : 24 * t + 6 * 0 + c ≤ q ∧ q < 24 * t + 24 ∧ (q - 24 * t) % 6 = c
        · rw [if_pos h3, if_pos (by omega), h3.2.2]
        · rw [if_neg h3, if_neg (by omega)]
theorem q_fillTable {iv : Nat → Int32} {av : Nat → Nat → Int32} {z : Nat → Int32} {n : Nat} (h : relSt iv av z) {ta mo : Int32} (h1 : okI ta 4) (h2 : okA mo 0 1000000) (svm svc svn : Int32) (zv : Nat → Int32) :
    ∃ A cv' w, m_fillTable svm z zv ta mo = (A, (m_keep svm z zv).1, 0, w, (m_keep svm z zv).2) ∧ x_X8_fillTable svc svn (av 0) ta mo = (A, (x_X8_saveN svc svn).1, (x_X8_saveN svc svn).2, cv') ∧ relSt iv (avu av 0 cv') w ∧ (bnd n z → bnd n w) := by
  obtain ⟨hn, hr⟩ := h
  have hG := hr.G
  have hc := hr.1
  obtain ⟨t1, t2⟩ := okI_n h1
  have t4 : ta.toNatClampNeg < 4 := t2
  have o : ∀ q, q < 47 ∨ 143 ≤ q → flM z mo (47 + 24 * ta.toNatClampNeg) 0 q = z q := fun q hq => by
    unfold flM
    rw [if_neg (by omega)]
  have hv : ∀ k, k < 96 → flC (av 0) mo (24 * ta.toNatClampNeg) 0 k = flM z mo (47 + 24 * ta.toNatClampNeg) 0 (47 + k) := fun k hk => by
    unfold flC flM
    by_cases e : 24 * ta.toNatClampNeg ≤ k ∧ k < 24 * ta.toNatClampNeg + 24
    · rw [if_pos (by omega), if_pos (by omega), show 47 + k - (47 + 24 * ta.toNatClampNeg) = k - 24 * ta.toNatClampNeg by omega]
    · rw [if_neg (by omega), if_neg (by omega)]
      exact hc.2.1 k hk
  have G : mG (flM z mo (47 + 24 * ta.toNatClampNeg) 0) := fun k hk => by
    by_cases e : 47 + 24 * ta.toNatClampNeg + 0 ≤ k ∧ k < 47 + 24 * ta.toNatClampNeg + 24
    · obtain ⟨m1, m2⟩ := mlh_tab k (by omega) (by omega)
      unfold flM
      rw [if_pos e, m1, m2]
      exact fV_r h2 (by omega) (by omega)
    · unfold flM
      rw [if_neg e]
      exact hG k hk
  have es := q_sum hv t1 t4
  refine ⟨m_sumOf_p (flM z mo (47 + 24 * ta.toNatClampNeg) 0) ta, flC (av 0) mo (24 * ta.toNatClampNeg) 0, flM z mo (47 + 24 * ta.toNatClampNeg) 0, ?_, ?_, ⟨?_, ?_⟩, fun hb => hb.up fun q hq => o q (by omega)⟩
  · unfold m_fillTable
    simp only [spLet_x]
    rw [in_1 (okI_4.mp h1), in_1 h2, if_neg (by decide), if_neg (by decide), fill_m ta mo _ 25 0 z (by omega) (by omega)]
  · have ef : x_X1_fill (av 0) ta mo = flC (av 0) mo (24 * ta.toNatClampNeg) 0 := fill_o t1 t4 7 0 (av 0) (by omega) (by omega)
    unfold x_X8_fillTable
    simp only [spLet_x, ef, es]
  · obtain ⟨a0, a1, a2, a3, a4, a5, a6, a7, a8, a9, a10⟩ := hn
    refine ⟨?_, ?_, ?_, ?_, ?_, ?_, ?_, ?_, ?_, ?_, ?_⟩ <;> (rw [o _ (by omega)]; assumption)
  · exact hr.re (cv' := flC (av 0) mo (24 * ta.toNatClampNeg) 0) ⟨by rw [o _ (by omega)]; exact hc.1, hv, fun k hk => by rw [o _ (by omega)]; exact hc.2.2.1 k hk, fun k hk => by rw [o _ (by omega)]; exact hc.2.2.2 k hk⟩ (hr.2.1.up fun q hq => o q (by omega)) G fun q hq => o q (by omega)
theorem q_fillTable_1 {z : Nat → Int32} {ta mo : Int32} (h1 : ¬ okI ta 4) (svm : Int32) (zv : Nat → Int32) : m_fillTable svm z zv ta mo = (0, svm, 1, z, zv) := by
  unfold m_fillTable m_fails
  simp only [spLet_x]
  rw [in_0 (fun k => h1 (okI_4.mpr k)), if_pos rfl]
theorem q_fillTable_2 {z : Nat → Int32} {ta mo : Int32} (h1 : okI ta 4) (h2 : ¬ okA mo 0 1000000) (svm : Int32) (zv : Nat → Int32) : m_fillTable svm z zv ta mo = (0, svm, 2, z, zv) := by
  unfold m_fillTable m_fails
  simp only [spLet_x]
  rw [in_1 (okI_4.mp h1), in_0 h2, if_neg (by decide), if_pos rfl]

/-! both sides: the checksum -/
def acch (f : Nat → Int32) : Nat → Int64 → Nat → Int64
  | 0, v, _ => v
  | m + 1, v, c => acch f m (31 * v + (f c).toInt64) (c + 1)
theorem acch_add (f : Nat → Int32) : ∀ (a b : Nat) (v : Int64) (c : Nat), acch f (a + b) v c = acch f b (acch f a v c) (c + a) := by
  intro a
  induction a with
  | zero => intro b v c; rw [Nat.zero_add]; rfl
  | succ a ih =>
    intro b v c
    rw [show a + 1 + b = (a + b) + 1 by omega]
    show acch f (a + b) (31 * v + (f c).toInt64) (c + 1) = acch f b (acch f a (31 * v + (f c).toInt64) (c + 1)) (c + (a + 1))
    rw [ih, show c + 1 + a = c + (a + 1) by omega]
theorem acch_cong {f g : Nat → Int32} : ∀ (m : Nat) (v : Int64) (c d : Nat), (∀ j, j < m → f (c + j) = g (d + j)) → acch f m v c = acch g m v d := by
  intro m
  induction m with
  | zero => intro v c d h; rfl
  | succ m ih =>
    intro v c d h
    show acch f m (31 * v + (f c).toInt64) (c + 1) = acch g m (31 * v + (g d).toInt64) (d + 1)
    have h0 := h 0 (by omega)
    rw [Nat.add_zero, Nat.add_zero] at h0
    rw [h0]
    exact ih _ _ _ fun j hj => by
      have := h (j + 1) (by omega)
      rw [show c + 1 + j = c + (j + 1) by omega, show d + 1 + j = d + (j + 1) by omega]
      exact this
theorem hloop {β : Type} (N : Nat) (f : Nat → Int32) (K : Int64 → β) (d : Int64 → Nat → β) (B : (Int64 → Nat → β) → Int64 → Nat → β) (hB : ∀ R v k, k ≤ N → B R v k = if N ≤ k then K v else R (31 * v + (f k).toInt64) (k + 1)) : ∀ (n k : Nat) (v : Int64), k ≤ N → N < k + n → spIter d B n v k = K (acch f (N - k) v k) := by
  intro n
  induction n with
  | zero => intro k v h1 h2; omega
  | succ n ih =>
    intro k v h1 h2
    show B (spIter d B n) v k = _
    rw [hB _ _ _ h1]
    by_cases c : N ≤ k
    · rw [if_pos c, show N - k = 0 by omega]; rfl
    · rw [if_neg c, ih (k + 1) _ (by omega) (by omega), show N - k = (N - (k + 1)) + 1 by omega]
      rfl
section DG
variable {iv : Nat → Int32} {av : Nat → Nat → Int32} {z : Nat → Int32}
theorem sumOf_p (z : Nat → Int32) {t : Nat} (h : t < 4) : m_sumOf z t = m_sumOf_p z (nI t) := by
  have key : ∀ (n k : Nat) (v : Int32), spIter (fun _ _ => default) (m_sumOf_b4 z t) n v k = spIter (fun _ _ => default) (m_sumOf_p_b4 z (nI t)) n v k := by
    intro n
    induction n with
    | zero => intro k v; rfl
    | succ n ih =>
      intro k v
      show m_sumOf_b4 z t (spIter (fun _ _ => default) (m_sumOf_b4 z t) n) v k = m_sumOf_p_b4 z (nI t) (spIter (fun _ _ => default) (m_sumOf_p_b4 z (nI t)) n) v k
      generalize spIter (fun _ _ => default) (m_sumOf_b4 z t) n = R1 at ih ⊢
      generalize spIter (fun _ _ => default) (m_sumOf_p_b4 z (nI t)) n = R2 at ih ⊢
      unfold m_sumOf_b4 m_sumOf_p_b4
      simp only [spLet_x]
      rw [nI_clamp (by omega), ih]
  exact key 25 0 0
theorem h_chart (hr : cTab (iv 11) (av 0) (av 1) (av 2) z) (hG : mG z) (v : Int64) : x_X1_hash (iv 11) (av 0) (av 1) v = acch (fun t => m_sumOf z t) 4 (31 * acch (fun k => z (43 + k)) 4 v 0 + (z 10).toInt64) 0 := by
  obtain ⟨a1, a2, a3, a4⟩ := hr
  have b := hG.c10
  have hj : ∀ v : Int64, (if iv 11 = 0 then x_X1_hash_j63 (av 0) v 0 else x_X1_hash_j63 (av 0) v 1) = acch (fun t => m_sumOf z t) 4 (31 * v + (z 10).toInt64) 0 := fun v => by
    have e : ∀ x : Int32, x_X1_hash_j63 (av 0) v x = acch (fun t => m_sumOf z t) 4 (31 * v + x.toInt64) 0 := fun x => by
      unfold x_X1_hash_j63
      rw [spLet_x, hloop 4 (fun t => x_X1_sum (av 0) (nI t)) (fun v => v) _ (x_X1_hash_b69 (av 0)) (fun R v k hk => by unfold x_X1_hash_b69; simp only [spLet_x]) 5 0 _ (by omega) (by omega)]
      exact acch_cong 4 _ 0 0 fun j hj => by
        rw [Nat.zero_add, sumOf_p z hj]
        exact q_sum (ta := nI j) a2 (by rw [nI_clamp (by omega)]) (by rw [nI_clamp (by omega)]; exact hj)
    rw [e, e, a1]
    by_cases c : z 10 = 0
    · rw [if_pos c, c]
    · have c1 : z 10 = 1 := Int32.toInt_inj.mp (by
        have : ¬ (z 10).toInt = 0 := fun k => c (Int32.toInt_inj.mp (by rw [k, l_0]))
        rw [l_1]; omega)
      rw [if_neg c, c1]
  unfold x_X1_hash
  rw [hloop 4 (fun k => av 1 k) (fun v => if iv 11 = 0 then x_X1_hash_j63 (av 0) v 0 else x_X1_hash_j63 (av 0) v 1) _ (x_X1_hash_b16 (iv 11) (av 0) (av 1)) (fun R v k hk => by unfold x_X1_hash_b16; simp only [spLet_x]) 5 0 _ (by omega) (by omega)]
  rw [hj]
  rw [acch_cong (f := fun k => av 1 k) (g := fun k => z (43 + k)) 4 v 0 0 fun j hj => by
    rw [Nat.zero_add]; exact a3 j hj]
theorem h_zone (hz : cZon (iv 12) (av 3) z) (hG : mG z) (v : Int64) : x_X7_hash (iv 12) (av 3) v = acch (fun k => z (18 + k)) (4 * (z 18).toNatClampNeg + 1) v 0 := by
  obtain ⟨y1, y2⟩ := hG.zones
  obtain ⟨e1, e2⟩ := hz
  unfold x_X7_hash
  rw [spLet_x, e1, hloop (4 * (z 18).toNatClampNeg) (av 3) (fun v => v) _ (x_X7_hash_b15 (z 18) (av 3)) (fun R v k hk => by
    unfold x_X7_hash_b15
    simp only [spLet_x]
    by_cases c : 4 * (z 18).toNatClampNeg ≤ k
    · rw [if_pos (by omega), if_pos c]
    · rw [if_neg (by omega), if_neg c, if_neg (by omega)]) 25 0 _ (by omega) (by omega)]
  show acch (av 3) (4 * (z 18).toNatClampNeg - 0) (31 * v + (z 18).toInt64) 0 = acch (fun k => z (18 + k)) (4 * (z 18).toNatClampNeg) (31 * v + (z 18).toInt64) 1
  exact acch_cong _ _ 0 1 fun j hj => by
    rw [Nat.zero_add, e2 j (by omega)]
    exact congrArg z (by omega)
theorem h_logi {go : Int32} {gt gk gv : Nat → Int32} {o c : Nat} (h1 : go = nI o) (h3 : o < 30) (h4 : c ≤ 30) (h6 : ∀ i, i < c → gt ((o + i) % 30) = z (144 + 3 * i) ∧ gk ((o + i) % 30) = z (145 + 3 * i) ∧ gv ((o + i) % 30) = z (146 + 3 * i)) (i : Nat) (hi : i < c) (R : Int64 → Nat → Int64) (v : Int64) : spIter (fun _ _ => default) (x_X3_hash_b27 go gt gk gv i R) 4 v 0 = R (acch (fun k => z (144 + k)) 3 v (3 * i)) (i + 1) := by
  have es := slot_n h3 (i := i) (by omega)
  rw [← h1] at es
  obtain ⟨r1, r2, r3⟩ := h6 i hi
  have ep : ∀ w, w < 3 → x_X3_part go gt gk gv (nI i) (nI w) = z (144 + (3 * i + w)) := fun w hw => by
    unfold x_X3_part
    simp only [spLet_x, es]
    rw [nI_clamp (by omega), r1, r2, r3]
    rcases (show w = 0 ∨ w = 1 ∨ w = 2 by omega) with k | k | k
    · rw [k, if_pos (show nI 0 = 0 from rfl)]; rfl
    · rw [k, if_neg (show ¬ nI 1 = 0 by decide), if_pos (show nI 1 = 1 from rfl)]
      exact congrArg z (by omega)
    · rw [k, if_neg (show ¬ nI 2 = 0 by decide), if_neg (show ¬ nI 2 = 1 by decide)]
      exact congrArg z (by omega)
  rw [hloop 3 (fun w => x_X3_part go gt gk gv (nI i) (nI w)) (fun v => R v (i + 1)) _ (x_X3_hash_b27 go gt gk gv i R) (fun R' v k hk => by unfold x_X3_hash_b27; simp only [spLet_x]) 4 0 _ (by omega) (by omega)]
  exact congrArg (fun t => R t (i + 1)) (acch_cong 3 v 0 (3 * i) fun j hj => by rw [Nat.zero_add]; exact ep j hj)
theorem h_log {go gc : Int32} {gt gk gv : Nat → Int32} (h : logR go gc gt gk gv z) (v : Int64) : x_X3_hash go gc gt gk gv v = acch (fun k => z (143 + k)) (3 * (z 143).toNatClampNeg + 1) v 0 := by
  obtain ⟨o, c, h1, h2, h3, h4, h5, h6⟩ := h
  have ec : gc.toNatClampNeg = c := by rw [h2, nI_clamp (by omega)]
  have ez : (z 143).toNatClampNeg = c := by rw [h5, nI_clamp (by omega)]
  have key : ∀ (n i : Nat) (v : Int64), i ≤ c → c < i + n → spIter (fun _ _ => default) (x_X3_hash_b15 go gc gt gk gv) n v i = acch (fun k => z (144 + k)) (3 * (c - i)) v (3 * i) := by
    intro n
    induction n with
    | zero => intro i v a b; omega
    | succ n ih =>
      intro i v a b
      show x_X3_hash_b15 go gc gt gk gv (spIter (fun _ _ => default) (x_X3_hash_b15 go gc gt gk gv) n) v i = _
      generalize spIter (fun _ _ => default) (x_X3_hash_b15 go gc gt gk gv) n = R at ih ⊢
      unfold x_X3_hash_b15
      rw [ec]
      by_cases d : c ≤ i
      · rw [if_pos d, show 3 * (c - i) = 0 by omega]; rfl
      · rw [if_neg d, h_logi h1 h3 h4 h6 i (by omega) R v, ih (i + 1) _ (by omega) (by omega), show 3 * (c - i) = 3 + 3 * (c - (i + 1)) by omega, acch_add]
        rfl
  unfold x_X3_hash
  rw [spLet_x, key 31 0 _ (by omega) (by omega), ez, h2, ← h5]
  show acch (fun k => z (144 + k)) (3 * (c - 0)) (31 * v + (z 143).toInt64) 0 = acch (fun k => z (143 + k)) (3 * c) (31 * v + (z 143).toInt64) 1
  exact acch_cong _ _ 0 1 fun j hj => congrArg z (by omega)
theorem h_tally {yg : Int32} {ys yl : Nat → Int32} (h : lifR yg ys yl z) (v : Int64) : x_X6_hash ys yl v = acch (fun k => z (234 + k)) 12 v 0 := by
  obtain ⟨l1, l2, l3⟩ := h
  unfold x_X6_hash
  rw [hloop 4 ys (fun v => spIter (fun _ _ => default) (x_X6_hash_b60 yl) 9 v 0) _ (x_X6_hash_b16 ys yl) (fun R v k hk => by unfold x_X6_hash_b16; simp only [spLet_x]) 5 0 _ (by omega) (by omega)]
  show spIter (fun _ _ => default) (x_X6_hash_b60 yl) 9 (acch ys (4 - 0) v 0) 0 = _
  rw [hloop 8 yl (fun v => v) _ (x_X6_hash_b60 yl) (fun R v k hk => by unfold x_X6_hash_b60; simp only [spLet_x]) 9 0 _ (by omega) (by omega)]
  show acch yl 8 (acch ys 4 v 0) 0 = acch (fun k => z (234 + k)) (4 + 8) v 0
  rw [acch_add, acch_cong (f := ys) (g := fun k => z (234 + k)) 4 v 0 0 fun j hj => by rw [Nat.zero_add]; exact l2 j hj]
  exact acch_cong 8 _ 0 4 fun j hj => by
    rw [Nat.zero_add, l3 j hj]
    exact congrArg z (by omega)
/-- the reference's later half -/
def hTail (z : Nat → Int32) (v : Int64) : Int64 := acch (fun k => z (234 + k)) 12 (acch (fun k => z (143 + k)) (3 * (z 143).toNatClampNeg + 1) (acch (fun k => z (18 + k)) (4 * (z 18).toNatClampNeg + 1) (acch (fun t => m_sumOf z t) 4 (31 * acch (fun k => z (43 + k)) 4 v 0 + (z 10).toInt64) 0) 0) 0) 0
theorem hm_tail (hG : mG z) (u : Int32 × Int32 × Int32 × (Nat → Int32)) (v : Int64) : spIter (fun _ _ => default) (m_digest_b105 z u) 5 v 0 = (hTail z v, 0, u.2.1, u.2.2.1, u.2.2.2) := by
  obtain ⟨y1, y2⟩ := hG.zones
  obtain ⟨w1, w2⟩ := hG.ev
  have e254 : ∀ v, spIter (fun _ _ => default) (m_digest_b254 z u) 13 v 0 = (acch (fun k => z (234 + k)) 12 v 0, 0, u.2.1, u.2.2.1, u.2.2.2) := fun v =>
    hloop 12 (fun k => z (234 + k)) (fun v => (v, (0 : Int32), u.2.1, u.2.2.1, u.2.2.2)) _ (m_digest_b254 z u) (fun R v k hk => by unfold m_digest_b254; simp only [spLet_x]) 13 0 v (by omega) (by omega)
  have e214 : ∀ v, spIter (fun _ _ => default) (m_digest_b214 z u) 92 v 0 = (acch (fun k => z (234 + k)) 12 (acch (fun k => z (143 + k)) (3 * (z 143).toNatClampNeg + 1) v 0) 0, 0, u.2.1, u.2.2.1, u.2.2.2) := fun v => by
    rw [← e254]
    exact hloop (3 * (z 143).toNatClampNeg + 1) (fun k => z (143 + k)) (fun v => spIter (fun _ _ => default) (m_digest_b254 z u) 13 v 0) _ (m_digest_b214 z u) (fun R v k hk => by
      unfold m_digest_b214
      simp only [spLet_x]
      by_cases c : 3 * (z 143).toNatClampNeg + 1 ≤ k
      · rw [if_pos (by omega), if_pos c]
      · rw [if_neg (by omega), if_neg c]) 92 0 v (by omega) (by omega)
  have e176 : ∀ v, spIter (fun _ _ => default) (m_digest_b176 z u) 26 v 0 = (acch (fun k => z (234 + k)) 12 (acch (fun k => z (143 + k)) (3 * (z 143).toNatClampNeg + 1) (acch (fun k => z (18 + k)) (4 * (z 18).toNatClampNeg + 1) v 0) 0) 0, 0, u.2.1, u.2.2.1, u.2.2.2) := fun v => by
    rw [← e214]
    exact hloop (4 * (z 18).toNatClampNeg + 1) (fun k => z (18 + k)) (fun v => spIter (fun _ _ => default) (m_digest_b214 z u) 92 v 0) _ (m_digest_b176 z u) (fun R v k hk => by
      unfold m_digest_b176
      simp only [spLet_x]
      by_cases c : 4 * (z 18).toNatClampNeg + 1 ≤ k
      · rw [if_pos (by omega), if_pos c]
      · rw [if_neg (by omega), if_neg c]) 26 0 v (by omega) (by omega)
  have e150 : ∀ v, spIter (fun _ _ => default) (m_digest_b150 z u) 5 v 0 = (acch (fun k => z (234 + k)) 12 (acch (fun k => z (143 + k)) (3 * (z 143).toNatClampNeg + 1) (acch (fun k => z (18 + k)) (4 * (z 18).toNatClampNeg + 1) (acch (fun t => m_sumOf z t) 4 v 0) 0) 0) 0, 0, u.2.1, u.2.2.1, u.2.2.2) := fun v => by
    rw [← e176]
    exact hloop 4 (fun t => m_sumOf z t) (fun v => spIter (fun _ _ => default) (m_digest_b176 z u) 26 v 0) _ (m_digest_b150 z u) (fun R v k hk => by unfold m_digest_b150; simp only [spLet_x]) 5 0 v (by omega) (by omega)
  unfold hTail
  rw [← e150]
  exact hloop 4 (fun k => z (43 + k)) (fun v => spIter (fun _ _ => default) (m_digest_b150 z u) 5 (31 * v + (z 10).toInt64) 0) _ (m_digest_b105 z u) (fun R v k hk => by unfold m_digest_b105; simp only [spLet_x]) 5 0 v (by omega) (by omega)
theorem q_digest (h : relSt iv av z) (svc svm tl mm mr : Int32) (zp : Nat → Int32) (hs : svc = svm) : ∃ mm' mr' zp', m_digest svm tl mm mr z zp = (x_X8_digest svc tl (iv 0) (iv 1) (iv 2) (iv 4) (iv 5) (iv 6) (iv 7) (iv 8) (iv 9) (iv 10) (iv 11) (av 0) (av 1) (av 2) (iv 12) (av 3) (iv 13) (iv 14) (av 4) (av 5) (av 6) (av 7) (av 8), 0, mm', mr', zp') := by
  have hG := h.G
  have e10 : iv 10 = z 5 := h.1.2.2.2.2.2.2.2.2.2.2
  -- the class's end
  have et : ∀ v : Int64, x_X6_hash (av 7) (av 8) (x_X3_hash (iv 13) (iv 14) (av 4) (av 5) (av 6) (x_X7_hash (iv 12) (av 3) (x_X1_hash (iv 11) (av 0) (av 1) v))) = hTail z v := fun v => by
    rw [h_chart h.tab hG, h_zone h.zon hG, h_log h.2.2.2.1, h_tally h.2.2.2.2.1]
    rfl
  have ex57 : ∀ v, spIter (fun _ _ => default) (x_X8_digest_b57 (iv 0) (iv 4) (iv 5) (iv 6) (iv 7) (iv 8) (iv 9) (iv 10) (iv 11) (av 0) (av 1) (av 2) (iv 12) (av 3) (iv 13) (iv 14) (av 4) (av 5) (av 6) (av 7) (av 8)) 9 v 0 = hTail z (31 * (31 * acch (fun k => x_X8_limiterValue (iv 0) (iv 4) (iv 5) (iv 6) (iv 8) (iv 9) (iv 10) (iv 11) (av 0) (av 1) (av 2) (nI k)) 8 v 0 + (x_X8_permitted (iv 0) (iv 4) (iv 5) (iv 6) (iv 7) (iv 8) (iv 9) (iv 10) (iv 11) (av 0) (av 1) (av 2) (iv 12) (av 3)).toInt64) + (z 5).toInt64) := fun v =>
    hloop 8 (fun k => x_X8_limiterValue (iv 0) (iv 4) (iv 5) (iv 6) (iv 8) (iv 9) (iv 10) (iv 11) (av 0) (av 1) (av 2) (nI k)) (fun v => hTail z (31 * (31 * v + (x_X8_permitted (iv 0) (iv 4) (iv 5) (iv 6) (iv 7) (iv 8) (iv 9) (iv 10) (iv 11) (av 0) (av 1) (av 2) (iv 12) (av 3)).toInt64) + (z 5).toInt64)) _ _ (fun R v k hk => by
      unfold x_X8_digest_b57
      simp only [spLet_x, et, e10]) 9 0 v (by omega) (by omega)
  have em54 : ∀ (n k : Nat) (v : Int64) (mm mr : Int32), k ≤ 8 → 8 < k + n → ∃ mm' mr' zp', spIter (fun _ _ _ _ => default) (m_digest_b54 z zp) n v k mm mr = (hTail z (31 * (31 * acch (fun k => x_X8_limiterValue (iv 0) (iv 4) (iv 5) (iv 6) (iv 8) (iv 9) (iv 10) (iv 11) (av 0) (av 1) (av 2) (nI k)) (8 - k) v k + (x_X8_permitted (iv 0) (iv 4) (iv 5) (iv 6) (iv 7) (iv 8) (iv 9) (iv 10) (iv 11) (av 0) (av 1) (av 2) (iv 12) (av 3)).toInt64) + (z 5).toInt64), 0, mm', mr', zp') := by
    intro n
    induction n with
    | zero => intro k v mm mr a b; omega
    | succ n ih =>
      intro k v mm mr a b
      show ∃ mm' mr' zp', m_digest_b54 z zp (spIter (fun _ _ _ _ => default) (m_digest_b54 z zp) n) v k mm mr = _
      generalize spIter (fun _ _ _ _ => default) (m_digest_b54 z zp) n = R at ih ⊢
      unfold m_digest_b54
      by_cases c : 8 ≤ k
      · rw [if_pos c, show 8 - k = 0 by omega]
        simp only [spLet_x]
        rw [hm_tail hG, q_permNow h mm mr zp]
        exact ⟨_, _, _, rfl⟩
      · rw [if_neg c]
        simp only [spLet_x, q_limV h]
        rw [show 8 - k = (8 - (k + 1)) + 1 by omega]
        exact ih (k + 1) _ _ _ (by omega) (by omega)
  obtain ⟨mm', mr', zp', e54⟩ := em54 9 0 (acch (fun k => m_boomValue z (nI k)) 12 (31 * (612653 + svm.toInt64) + tl.toInt64) 0) mm mr (by omega) (by omega)
  refine ⟨mm', mr', zp', ?_⟩
  have em : m_digest svm tl mm mr z zp = spIter (fun _ _ _ _ => default) (m_digest_b54 z zp) 9 (acch (fun k => m_boomValue z (nI k)) 12 (31 * (612653 + svm.toInt64) + tl.toInt64) 0) 0 mm mr := by
    unfold m_digest
    rw [spLet_x]
    exact hloop 12 (fun k => m_boomValue z (nI k)) (fun v => spIter (fun _ _ _ _ => default) (m_digest_b54 z zp) 9 v 0 mm mr) _ _ (fun R v k hk => by unfold m_digest_b27; simp only [spLet_x]) 13 0 _ (by omega) (by omega)
  have ex : x_X8_digest svc tl (iv 0) (iv 1) (iv 2) (iv 4) (iv 5) (iv 6) (iv 7) (iv 8) (iv 9) (iv 10) (iv 11) (av 0) (av 1) (av 2) (iv 12) (av 3) (iv 13) (iv 14) (av 4) (av 5) (av 6) (av 7) (av 8) = hTail z (31 * (31 * acch (fun k => x_X8_limiterValue (iv 0) (iv 4) (iv 5) (iv 6) (iv 8) (iv 9) (iv 10) (iv 11) (av 0) (av 1) (av 2) (nI k)) 8 (acch (fun k => m_boomValue z (nI k)) 12 (31 * (612653 + svm.toInt64) + tl.toInt64) 0) 0 + (x_X8_permitted (iv 0) (iv 4) (iv 5) (iv 6) (iv 7) (iv 8) (iv 9) (iv 10) (iv 11) (av 0) (av 1) (av 2) (iv 12) (av 3)).toInt64) + (z 5).toInt64) := by
    rw [← ex57]
    unfold x_X8_digest
    simp only [spLet_x]
    rw [show (31 : Int64) * 19763 = 612653 by decide, hs]
    exact hloop 12 (fun k => m_boomValue z (nI k)) (fun v => spIter (fun _ _ => default) (x_X8_digest_b57 (iv 0) (iv 4) (iv 5) (iv 6) (iv 7) (iv 8) (iv 9) (iv 10) (iv 11) (av 0) (av 1) (av 2) (iv 12) (av 3) (iv 13) (iv 14) (av 4) (av 5) (av 6) (av 7) (av 8)) 9 v 0) _ _ (fun R v k hk => by unfold x_X8_digest_b30; simp only [spLet_x, q_boomV h]) 13 0 _ (by omega) (by omega)
  rw [em, ex]
  exact e54
end DG

