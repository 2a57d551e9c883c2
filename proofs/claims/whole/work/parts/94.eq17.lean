/-! both sides: the calls that only look -/
section RD
variable {iv : Nat → Int32} {av : Nat → Nat → Int32} {z : Nat → Int32} {n : Nat}
theorem relSt.tab (h : relSt iv av z) : cTab (iv 11) (av 0) (av 1) (av 2) z := h.2.1
theorem relSt.zon (h : relSt iv av z) : cZon (iv 12) (av 3) z := h.2.2.1
theorem relSt.G (h : relSt iv av z) : mG z := h.2.G
theorem q_capacity (h : relSt iv av z) {ta ro co : Int32} (h1 : okI ta 4 ∧ okI ro 4 ∧ okI co 6) : m_capacity z ta ro co = (x_X8_capacity (av 0) ta ro co, 0) := by
  obtain ⟨t1, t2⟩ := okI_n h1.1
  obtain ⟨r1, r2⟩ := okI_n h1.2.1
  obtain ⟨c1, c2⟩ := okI_n h1.2.2
  have hv := x_val (cv := av 0) h.tab.2.1 (t := ta.toNatClampNeg) (i := ro.toNatClampNeg) (j := co.toNatClampNeg) t2 r2 c2
  rw [← t1, ← r1, ← c1] at hv
  unfold m_capacity x_X8_capacity m_valueAt_p
  simp only [spLet_x]
  rw [place_1 h1, if_neg (by decide), hv, Int32.toInt32_toInt64]
theorem q_capacity_1 {ta ro co : Int32} (h1 : ¬ (okI ta 4 ∧ okI ro 4 ∧ okI co 6)) : m_capacity z ta ro co = (0, 1) := by
  unfold m_capacity m_fails
  simp only [spLet_x]
  rw [place_0 h1, if_pos rfl]
theorem okA_8 {mo : Int32} (h : okA mo 0 7) : 0 ≤ mo.toInt ∧ mo.toInt < 8 := by
  obtain ⟨a, b⟩ := h
  rw [l_0] at a
  rw [show ((7 : Int32)).toInt = 7 by decide] at b
  omega
theorem q_predicted (h : relSt iv av z) {mo : Int32} (h1 : okA mo 0 7) (mm mr : Int32) (zp : Nat → Int32) : ∃ mm' mr' zp', m_predicted mm mr z zp mo = (x_X8_predicted (iv 0) (iv 4) (iv 5) (iv 6) (iv 7) (iv 8) (iv 9) (iv 10) (iv 11) (av 0) (av 1) (av 2) mo, 0, mm', mr', zp') := by
  obtain ⟨⟨a0, a1, a2, a3, a4, a5, a6, a7, a8, a9, a10⟩, hr⟩ := h
  have hG := hr.G
  have hc := hr.1
  obtain ⟨m0, m8⟩ := okA_8 h1
  have Gw := carry_G hG mo
  have fw : frP z (m_carry z mo) := frP.carry (fun q hq => rfl) mo
  have w6 : m_carry z mo 6 = z 6 := carry_hi z mo (by decide)
  have w5 : m_carry z mo 5 = z 5 := carry_hi z mo (by decide)
  have em := q_move z hG m0 m8
  have sl := Gw.c2
  have er := q_read Gw
  obtain ⟨e, r0, r1⟩ := q_rated (fw.tab hc) Gw (le := m_carry z mo 0) (ra := mRad (m_carry z mo)) (sl := m_carry z mo 2) Gw.c0.1 Gw.c0.2 sl.1 (by omega)
  rw [w5, w6] at er
  have ex : x_X8_predicted (iv 0) (iv 4) (iv 5) (iv 6) (iv 7) (iv 8) (iv 9) (iv 10) (iv 11) (av 0) (av 1) (av 2) mo = m_utilizationAt (mMas (m_carry z mo)) (mRad (m_carry z mo)) (m_carry z mo) (m_carry z mo 2) := by
    unfold x_X8_predicted x_X8_tryMotion x_X8_utilizationAtR
    rw [a0, a4, a5, a6, a7, a8, a9, a10]
    simp only [spLet_x, em, bv, er, e]
    rw [utilAt_e]
    exact q_utiliz (net_r _) r0
  refine ⟨mMas (m_carry z mo), mRad (m_carry z mo), m_remember z zp, ?_⟩
  rw [ex]
  unfold m_predicted
  simp only [spLet_x, util_mr]
  rw [in_1 h1, if_neg (by decide)]
theorem q_predicted_1 {mo : Int32} (h1 : ¬ okA mo 0 7) (mm mr : Int32) (zp : Nat → Int32) : m_predicted mm mr z zp mo = (0, 1, mm, mr, zp) := by
  unfold m_predicted m_fails
  simp only [spLet_x]
  rw [in_0 h1, if_pos rfl]
theorem q_boomV (h : relSt iv av z) (wh : Int32) : x_X8_boomValue (iv 1) (iv 2) (iv 4) (iv 5) (iv 6) (iv 7) (iv 8) (iv 9) (iv 10) (iv 12) (av 3) wh = m_boomValue z wh := by
  obtain ⟨⟨a0, a1, a2, a3, a4, a5, a6, a7, a8, a9, a10⟩, hr⟩ := h
  have hG := hr.G
  have hz := hr.2.1
  have hr1 : x_X0_radius (z 0) (z 1) = m_radius z := by rw [radius_of]; exact q_radius hG.c1.1 hG.c1.2
  have ht : x_X0_tip (z 0) (z 1) = m_height z := by rw [height_of]; exact q_tip hG.c1.1 hG.c1.2
  have ev : x_X7_violation (iv 12) (av 3) (z 0) (z 1) (z 2) = m_violation z := by rw [hz.1]; exact q_violation hz.2 hG
  unfold x_X8_boomValue m_boomValue
  rw [a1, a2, a4, a5, a6, a7, a8, a9, a10]
  simp only [spLet_x, hr1, ht, ev, q_read hG]
theorem q_boom (h : relSt iv av z) {wh : Int32} (h1 : okA wh 0 11) : m_boom z wh = (x_X8_boom (iv 1) (iv 2) (iv 4) (iv 5) (iv 6) (iv 7) (iv 8) (iv 9) (iv 10) (iv 12) (av 3) wh, 0) := by
  unfold m_boom x_X8_boom
  simp only [spLet_x, q_boomV h]
  rw [in_1 h1, if_neg (by decide)]
theorem q_boom_1 {wh : Int32} (h1 : ¬ okA wh 0 11) : m_boom z wh = (0, 1) := by
  unfold m_boom m_fails
  simp only [spLet_x]
  rw [in_0 h1, if_pos rfl]
theorem q_limV (h : relSt iv av z) (wh mr : Int32) : m_limiterValue mr z wh = (x_X8_limiterValue (iv 0) (iv 4) (iv 5) (iv 6) (iv 8) (iv 9) (iv 10) (iv 11) (av 0) (av 1) (av 2) wh, mMas z, mRad z) := by
  obtain ⟨⟨a0, a1, a2, a3, a4, a5, a6, a7, a8, a9, a10⟩, hr⟩ := h
  have hG := hr.G
  have hc := hr.1
  have sl := hG.c2
  have et : x_X1_tableAt (iv 11) (av 1) (z 2) = m_tableAt z (z 2) := by rw [hc.1]; exact q_table hc.2.2.1 hG sl.1 (by omega)
  have ew := q_wind hc.2.2.2
  have er := (q_rated hc hG (le := z 0) (ra := mRad z) (sl := z 2) hG.c0.1 hG.c0.2 sl.1 (by omega)).1
  have eu := q_utilN hc hG (sl := z 2) sl.1 (by omega)
  have em : m_measure mr z = (mMas z, mRad z) := measure_e mr z
  unfold x_X8_limiterValue m_limiterValue
  rw [a0, a4, a5, a6, a8, a9, a10]
  simp only [spLet_x, q_read hG, et, ew, er, eu, em]
  by_cases c0 : wh = 0
  · simp only [if_pos c0]
  · simp only [if_neg c0]
    by_cases c1 : wh = 1
    · simp only [if_pos c1]
    · simp only [if_neg c1]
      by_cases c2 : wh = 2
      · simp only [if_pos c2]
      · simp only [if_neg c2]
        by_cases c3 : wh = 3
        · simp only [if_pos c3]
        · simp only [if_neg c3]
          by_cases c4 : wh = 4
          · simp only [if_pos c4]
          · simp only [if_neg c4]
            by_cases c5 : wh = 5
            · simp only [if_pos c5]
            · simp only [if_neg c5]
              by_cases c6 : wh = 6
              · simp only [if_pos c6]
              · simp only [if_neg c6]
theorem q_limiter (h : relSt iv av z) {wh : Int32} (h1 : okA wh 0 7) (mm mr : Int32) : ∃ mm' mr', m_limiter mm mr z wh = (x_X8_limiter (iv 0) (iv 4) (iv 5) (iv 6) (iv 8) (iv 9) (iv 10) (iv 11) (av 0) (av 1) (av 2) wh, 0, mm', mr') := by
  refine ⟨mMas z, mRad z, ?_⟩
  unfold m_limiter x_X8_limiter
  simp only [spLet_x, q_limV h]
  rw [in_1 h1, if_neg (by decide)]
theorem q_limiter_1 {wh : Int32} (h1 : ¬ okA wh 0 7) (mm mr : Int32) : m_limiter mm mr z wh = (0, 1, mm, mr) := by
  unfold m_limiter m_fails
  simp only [spLet_x]
  rw [in_0 h1, if_pos rfl]
theorem q_ratedC (h : relSt iv av z) {nl na ns : Int32} (h1 : okA nl 1000 6000 ∧ okA na 0 850 ∧ okA ns 0 3599) : m_rated z nl na ns = (x_X8_rated (iv 11) (av 0) (av 1) (av 2) nl na ns, 0) := by
  obtain ⟨l1, l2⟩ := h1.1
  obtain ⟨b1, b2⟩ := h1.2.1
  obtain ⟨s1, s2⟩ := h1.2.2
  have z1 : ((1000 : Int32)).toInt = 1000 := by decide
  have z2 : ((3599 : Int32)).toInt = 3599 := by decide
  rw [z1] at l1
  rw [l_6000] at l2
  rw [l_0] at b1 s1
  rw [l_850] at b2
  rw [z2] at s2
  have er := (q_rated h.tab h.G (le := nl) (ra := m_radiusOf nl na) (sl := ns) l1 l2 s1 (by omega)).1
  unfold m_rated x_X8_rated x_X0_place
  simp only [spLet_x, q_radius b1 b2, er]
  rw [posi_1 h1, if_neg (by decide)]
theorem q_ratedC_1 {nl na ns : Int32} (h1 : ¬ (okA nl 1000 6000 ∧ okA na 0 850 ∧ okA ns 0 3599)) : m_rated z nl na ns = (0, 1) := by
  unfold m_rated m_fails
  simp only [spLet_x]
  rw [posi_0 h1, if_pos rfl]
theorem q_maxRadius (h : relSt iv av z) {ma : Int32} (h1 : okA ma 1 100000) : m_maxRadius z ma = (x_X8_maxRadius (iv 4) (iv 6) (iv 11) (av 0) (av 1) (av 2) ma, 0) := by
  obtain ⟨⟨a0, a1, a2, a3, a4, a5, a6, a7, a8, a9, a10⟩, hr⟩ := h
  have hG := hr.G
  have hc := hr.1
  have sl := hG.c2
  have key : ∀ (n : Nat) (v : Int32), spIter (fun _ => default) (m_maxRadius_b25 z ma) n v = (spIter (fun _ => default) (x_X8_maxRadius_b11 (z 0) (z 2) (iv 11) (av 0) (av 1) (av 2) ma) n v, 0) := by
    intro n
    induction n with
    | zero => intro v; rfl
    | succ n ih =>
      intro v
      show m_maxRadius_b25 z ma (spIter (fun _ => default) (m_maxRadius_b25 z ma) n) v = (x_X8_maxRadius_b11 (z 0) (z 2) (iv 11) (av 0) (av 1) (av 2) ma (spIter (fun _ => default) (x_X8_maxRadius_b11 (z 0) (z 2) (iv 11) (av 0) (av 1) (av 2) ma) n) v, 0)
      generalize spIter (fun _ => default) (m_maxRadius_b25 z ma) n = R1 at ih ⊢
      generalize spIter (fun _ => default) (x_X8_maxRadius_b11 (z 0) (z 2) (iv 11) (av 0) (av 1) (av 2) ma) n = R2 at ih ⊢
      have er := (q_rated hc hG (le := z 0) (ra := v) (sl := z 2) hG.c0.1 hG.c0.2 sl.1 (by omega)).1
      unfold m_maxRadius_b25 x_X8_maxRadius_b11 m_maxRadius_j59
      simp only [spLet_x, er]
      by_cases c : v < 300
      · rw [if_pos c, if_pos c, if_neg (Int32.not_le.mpr c)]
      · rw [if_neg c, if_neg c]
        by_cases d : m_ratedFor z (z 0) v (z 2) < ma
        · rw [if_pos d, if_neg (Int32.not_le.mpr d)]
          exact ih _
        · rw [if_neg d, if_pos (Int32.not_lt.mp d), if_pos (Int32.not_lt.mp c)]
  unfold m_maxRadius x_X8_maxRadius
  simp only [spLet_x]
  rw [in_1 h1, if_neg (by decide), a4, a6]
  exact key 2702 3000
theorem q_maxRadius_1 {ma : Int32} (h1 : ¬ okA ma 1 100000) : m_maxRadius z ma = (0, 1) := by
  unfold m_maxRadius m_fails
  simp only [spLet_x]
  rw [in_0 h1, if_pos rfl]
theorem q_events (h : relSt iv av z) : m_events z = (x_X8_events (iv 14), 0) := by
  obtain ⟨o, c, e1, e2, e3, e4, e5, e6⟩ := h.2.2.2.1
  unfold m_events x_X8_events
  rw [e2, e5]
theorem okI_ev (h : relSt iv av z) {ix : Int32} : okI ix (iv 14) ↔ okA ix 0 (z 143 - 1) := by
  obtain ⟨o, c, e1, e2, e3, e4, e5, e6⟩ := h.2.2.2.1
  have b := h.G.c143
  have e := zsub (x := z 143) (y := 1) rfl l_1 (by omega) (by omega)
  rw [e2, ← e5]
  exact okI_A (by omega)
theorem q_event (h : relSt iv av z) {ix wh : Int32} (h1 : okI ix (iv 14)) (h2 : okA wh 0 2) : m_event z ix wh = (x_X8_event (iv 13) (av 4) (av 5) (av 6) ix wh, 0) := by
  have hin := in_1 ((okI_ev h).mp h1)
  obtain ⟨o, c, e1, e2, e3, e4, e5, e6⟩ := h.2.2.2.1
  obtain ⟨i1, i2⟩ := okI_n h1
  rw [e2, nI_clamp (by omega)] at i2
  obtain ⟨w1, w2⟩ := okA_n (n := 2) (by decide) h2
  have es := slot_n e3 (i := ix.toNatClampNeg) (by omega)
  rw [← i1, ← e1] at es
  obtain ⟨r1, r2, r3⟩ := e6 ix.toNatClampNeg i2
  unfold m_event x_X8_event x_X3_part
  simp only [spLet_x, es]
  rw [hin, in_1 h2, if_neg (by decide), if_neg (by decide), nI_clamp (by omega), r1, r2, r3]
  rcases (show wh.toNatClampNeg = 0 ∨ wh.toNatClampNeg = 1 ∨ wh.toNatClampNeg = 2 by omega) with k | k | k
  · rw [k] at w1
    rw [w1, if_pos (show nI 0 = 0 from rfl)]; rfl
  · rw [k] at w1
    rw [w1, if_neg (show ¬ nI 1 = 0 by decide), if_pos (show nI 1 = 1 from rfl)]
    exact congrArg (fun q => (z q, (0 : Int32))) (show 144 + 3 * ix.toNatClampNeg + 1 = 145 + 3 * ix.toNatClampNeg by omega)
  · rw [k] at w1
    rw [w1, if_neg (show ¬ nI 2 = 0 by decide), if_neg (show ¬ nI 2 = 1 by decide)]
    exact congrArg (fun q => (z q, (0 : Int32))) (show 144 + 3 * ix.toNatClampNeg + 2 = 146 + 3 * ix.toNatClampNeg by omega)
theorem q_event_1 (h : relSt iv av z) {ix wh : Int32} (h1 : ¬ okI ix (iv 14)) : m_event z ix wh = (0, 1) := by
  have hin := in_0 (fun k => h1 ((okI_ev h).mpr k))
  unfold m_event m_fails
  simp only [spLet_x]
  rw [hin, if_pos rfl]
theorem q_event_2 (h : relSt iv av z) {ix wh : Int32} (h1 : okI ix (iv 14)) (h2 : ¬ okA wh 0 2) : m_event z ix wh = (0, 2) := by
  have hin := in_1 ((okI_ev h).mp h1)
  unfold m_event m_fails
  simp only [spLet_x]
  rw [hin, in_0 h2, if_neg (by decide), if_pos rfl]
theorem q_stateTime (h : relSt iv av z) {ks : Int32} (h1 : okA ks 0 3) : m_stateTime z ks = (x_X8_stateTime (av 7) ks, 0) := by
  obtain ⟨l1, l2, l3⟩ := h.2.2.2.2.1
  obtain ⟨w1, w2⟩ := okA_n (n := 3) (by decide) h1
  unfold m_stateTime x_X8_stateTime
  simp only [spLet_x]
  rw [in_1 h1, if_neg (by decide), l2 _ (by omega)]
theorem q_stateTime_1 {ks : Int32} (h1 : ¬ okA ks 0 3) : m_stateTime z ks = (0, 1) := by
  unfold m_stateTime m_fails
  simp only [spLet_x]
  rw [in_0 h1, if_pos rfl]
theorem q_lifts (h : relSt iv av z) {ks : Int32} (h1 : okA ks 0 7) : m_lifts z ks = (x_X8_lifts (av 8) ks, 0) := by
  obtain ⟨l1, l2, l3⟩ := h.2.2.2.2.1
  obtain ⟨w1, w2⟩ := okA_n (n := 7) (by decide) h1
  unfold m_lifts x_X8_lifts
  simp only [spLet_x]
  rw [in_1 h1, if_neg (by decide), l3 _ (by omega)]
theorem q_lifts_1 {ks : Int32} (h1 : ¬ okA ks 0 7) : m_lifts z ks = (0, 1) := by
  unfold m_lifts m_fails
  simp only [spLet_x]
  rw [in_0 h1, if_pos rfl]
theorem q_spectrum (h : relSt iv av z) (hn : n < 2000000000) (hb : bnd n z) : m_spectrum z = (x_X8_spectrum (av 8), 0) := by
  obtain ⟨l1, l2, l3⟩ := h.2.2.2.2.1
  have z0 : ((0 : Int64)).toInt = 0 := by decide
  have key : ∀ (m k : Nat) (v1 v3 : Int64), k + m = 9 → 0 ≤ v3.toInt → v3.toInt ≤ 2000000000 * (k : Int) → spIter (fun _ _ _ => default) (m_spectrum_b12 z) m v1 v3 k = (spIter (fun _ _ _ => default) (x_X6_loadSpectrum_b7 (av 8)) m v1 v3 k, 0) := by
    intro m
    induction m with
    | zero => intro k v1 v3 h1; intros; rfl
    | succ m ih =>
      intro k v1 v3 hk h1 h2
      show m_spectrum_b12 z (spIter (fun _ _ _ => default) (m_spectrum_b12 z) m) v1 v3 k = (x_X6_loadSpectrum_b7 (av 8) (spIter (fun _ _ _ => default) (x_X6_loadSpectrum_b7 (av 8)) m) v1 v3 k, 0)
      generalize spIter (fun _ _ _ => default) (m_spectrum_b12 z) m = R1 at ih ⊢
      generalize spIter (fun _ _ _ => default) (x_X6_loadSpectrum_b7 (av 8)) m = R2 at ih ⊢
      unfold m_spectrum_b12 x_X6_loadSpectrum_b7
      simp only [spLet_x]
      by_cases c : 8 ≤ k
      · rw [if_pos c, if_pos c]
        by_cases d : lg_cmp v3 0 = 0
        · rw [if_pos d, if_neg (by rw [d]; decide)]
        · have d2 : ¬ v3 = 0 := fun e => d ((lg_cmp_eq v3 0).mpr e)
          have d3 : (0 : Int64) < v3 := Int64.lt_iff_toInt_lt.mpr (by
            rcases Int.lt_or_eq_of_le h1 with k | k
            · omega
            · exact absurd (Int64.toInt_inj.mp (by omega : v3.toInt = ((0 : Int64)).toInt)) d2)
          rw [if_neg d, if_pos ((lg_cmp_gt v3 0).mpr d3)]
      · rw [if_neg c, if_neg c, l3 k (by omega)]
        obtain ⟨b1, b2⟩ := hb k (by omega)
        have e := ladd' (x := v3) (y := (z (238 + k)).toInt64) rfl (zi2l rfl) (by omega) (by omega)
        exact ih (k + 1) _ _ (by omega) (by rw [e]; omega) (by rw [e]; omega)
  unfold m_spectrum x_X8_spectrum x_X6_loadSpectrum
  rw [spLet_x]
  exact key 9 0 0 0 rfl (by decide) (by decide)
theorem q_permNow (h : relSt iv av z) (mm mr : Int32) (zp : Nat → Int32) : (m_permittedNow mm mr z zp).1 = x_X8_permitted (iv 0) (iv 4) (iv 5) (iv 6) (iv 7) (iv 8) (iv 9) (iv 10) (iv 11) (av 0) (av 1) (av 2) (iv 12) (av 3) := by
  obtain ⟨⟨a0, a1, a2, a3, a4, a5, a6, a7, a8, a9, a10⟩, hr⟩ := h
  have key : ∀ (m k : Nat) (v mm mr : Int32) (zp : Nat → Int32), k + m = 9 → (spIter (fun _ _ _ _ _ => default) (m_permittedNow_b4 z) m v k mm mr zp).1 = spIter (fun _ _ => default) (x_X8_permitted_b4 (z 7) (z 0) (z 1) (z 2) (z 3) (z 4) (z 6) (z 5) (iv 11) (av 0) (av 1) (av 2) (iv 12) (av 3)) m v k := by
    intro m
    induction m with
    | zero => intro k v mm mr zp hk; rfl
    | succ m ih =>
      intro k v mm mr zp hk
      show (m_permittedNow_b4 z (spIter (fun _ _ _ _ _ => default) (m_permittedNow_b4 z) m) v k mm mr zp).1 = x_X8_permitted_b4 (z 7) (z 0) (z 1) (z 2) (z 3) (z 4) (z 6) (z 5) (iv 11) (av 0) (av 1) (av 2) (iv 12) (av 3) (spIter (fun _ _ => default) (x_X8_permitted_b4 (z 7) (z 0) (z 1) (z 2) (z 3) (z 4) (z 6) (z 5) (iv 11) (av 0) (av 1) (av 2) (iv 12) (av 3)) m) v k
      generalize spIter (fun _ _ _ _ _ => default) (m_permittedNow_b4 z) m = R1 at ih ⊢
      generalize spIter (fun _ _ => default) (x_X8_permitted_b4 (z 7) (z 0) (z 1) (z 2) (z 3) (z 4) (z 6) (z 5) (iv 11) (av 0) (av 1) (av 2) (iv 12) (av 3)) m = R2 at ih ⊢
      unfold m_permittedNow_b4 x_X8_permitted_b4 m_permittedNow_j26 x_X8_permitted_j24
      by_cases c : 8 ≤ k
      · rw [if_pos c, if_pos c]
      · have ek := nI_toInt (n := k) (by omega)
        have ep := q_permitted hr.1 hr.2.1 hr.G (mo := nI k) (by omega) (by omega)
        rw [if_neg c, if_neg c]
        simp only [spLet_x, ep, per_m]
        by_cases d : perM z (nI k) = 0
        · rw [if_pos d, if_pos d, Int32.or_zero]
          exact ih (k + 1) v _ _ _ (by omega)
        · rw [if_neg d, if_neg d]
          exact ih (k + 1) _ _ _ _ (by omega)
  unfold m_permittedNow x_X8_permitted
  rw [a0, a4, a5, a6, a7, a8, a9, a10]
  exact key 9 0 0 mm mr zp rfl
theorem q_permittedC (h : relSt iv av z) (mm mr : Int32) (zp : Nat → Int32) : ∃ mm' mr' zp', m_permitted mm mr z zp = (x_X8_permitted (iv 0) (iv 4) (iv 5) (iv 6) (iv 7) (iv 8) (iv 9) (iv 10) (iv 11) (av 0) (av 1) (av 2) (iv 12) (av 3), 0, mm', mr', zp') := by
  have e := q_permNow h mm mr zp
  refine ⟨(m_permittedNow mm mr z zp).2.1, (m_permittedNow mm mr z zp).2.2.1, (m_permittedNow mm mr z zp).2.2.2, ?_⟩
  unfold m_permitted
  rw [spLet_x, ← e]
end RD
