/-! both sides: worst slew, undo, text, filled tables -/
section WS
variable {iv : Nat → Int32} {av : Nat → Nat → Int32} {z : Nat → Int32} {n : Nat}
theorem utiliz_ge {ld rt : Int32} (h0 : 0 ≤ ld.toInt) (h1 : 0 ≤ rt.toInt) : 0 ≤ (m_utilizationOf ld rt).toInt := by
  have z9 : ((9999 : Int64)).toInt = 9999 := by decide
  have z10 : ((1000 : Int64)).toInt = 1000 := by decide
  have b := fb_rng ld
  have b2 := fb_rng rt
  unfold m_utilizationOf
  split
  · exact Int.le_of_eq l_0.symm
  · split
    · decide
    · rename_i c
      have d : 0 < rt.toInt := by
        rcases Int.lt_or_eq_of_le h1 with k | k
        · exact k
        · exact absurd (Int32.toInt_inj.mp (by rw [l_0]; omega)) c
      have e := ldiv' (lmul' z10 (zi2l (x := ld) rfl) (by omega) (by omega)) (zi2l (x := rt) rfl) (by omega) d
      rw [spLet_x]
      have q0 : 0 ≤ 1000 * ld.toInt / rt.toInt := Int.ediv_nonneg (by omega) (by omega)
      split
      · rename_i f
        have f2 := Int64.le_iff_toInt_le.mp ((lg_cmp_le _ _).mp f)
        rw [e, z9] at f2
        rw [zl2i e (by omega) (by omega)]
        exact q0
      · decide
theorem q_worst (h : relSt iv av z) {fr to wh : Int32} (h1 : okA fr 0 3599) (h2 : okA to 0 3599) (h3 : okA wh 0 1) (mm mr : Int32) : ∃ mm' mr', m_worstSlew mm mr z fr to wh = (x_X8_worstSlew (iv 4) (iv 5) (iv 8) (iv 9) (iv 10) (iv 11) (av 0) (av 1) (av 2) fr to wh, 0, mm', mr') := by
  obtain ⟨⟨a0, a1, a2, a3, a4, a5, a6, a7, a8, a9, a10⟩, hr⟩ := h
  have hG := hr.G
  have hc := hr.1
  have z35 : ((3599 : Int32)).toInt = 3599 := by decide
  obtain ⟨f0, f1⟩ := h1
  obtain ⟨t0, t1⟩ := h2
  rw [l_0] at f0 t0
  rw [z35] at f1 t1
  have ew := clock_e (fr := fr) (to := to) f0 (by omega) t0 (by omega)
  have ew2 := zrem (zadd (zsub (x := to) (y := fr) rfl rfl (by omega) (by omega)) l_3600 (by omega) (by omega)) l_3600 (by omega) (by omega)
  have eway : to - fr + 3600 - (to - fr + 3600) / 3600 * 3600 = x_X8_clockwise fr to := Int32.toInt_inj.mp (ew2.trans ew.symm)
  obtain ⟨wn, wl⟩ := cw_n (fr := fr) (to := to) ⟨by rw [l_0]; exact f0, by rw [z35]; exact f1⟩ ⟨by rw [l_0]; exact t0, by rw [z35]; exact t1⟩
  have em : m_measure mr z = (mMas z, mRad z) := measure_e mr z
  have ln := hG.c0
  have key : ∀ (m k : Nat) (v5 v6 w6 : Int32), k ≤ 3650 → 3650 < k + 50 * m → ((k = 0 ∧ v5 = -1) ∨ v6 = w6) →
      spIter (fun _ _ _ => default) (m_worstSlew_b68 z fr wh (x_X8_clockwise fr to) (mMas z, mRad z)) m v5 w6 k = (spIter (fun _ _ _ => default) (x_X8_worstSlew_b44 (z 0) (iv 11) (av 0) (av 1) (av 2) fr wh (m_pressure z, mMas z, mRad z, m_netLoad (mMas z) z) (x_X8_clockwise fr to)) m v5 v6 k, 0, mMas z, mRad z) := by
    intro m
    induction m with
    | zero => intro k v5 v6 w6 a b; omega
    | succ m ih =>
      intro k v5 v6 w6 a b hv
      show m_worstSlew_b68 z fr wh (x_X8_clockwise fr to) (mMas z, mRad z) (spIter (fun _ _ _ => default) (m_worstSlew_b68 z fr wh (x_X8_clockwise fr to) (mMas z, mRad z)) m) v5 w6 k = (x_X8_worstSlew_b44 (z 0) (iv 11) (av 0) (av 1) (av 2) fr wh (m_pressure z, mMas z, mRad z, m_netLoad (mMas z) z) (x_X8_clockwise fr to) (spIter (fun _ _ _ => default) (x_X8_worstSlew_b44 (z 0) (iv 11) (av 0) (av 1) (av 2) fr wh (m_pressure z, mMas z, mRad z, m_netLoad (mMas z) z) (x_X8_clockwise fr to)) m) v5 v6 k, 0, mMas z, mRad z)
      generalize spIter (fun _ _ _ => default) (m_worstSlew_b68 z fr wh (x_X8_clockwise fr to) (mMas z, mRad z)) m = R1 at ih ⊢
      generalize spIter (fun _ _ _ => default) (x_X8_worstSlew_b44 (z 0) (iv 11) (av 0) (av 1) (av 2) fr wh (m_pressure z, mMas z, mRad z, m_netLoad (mMas z) z) (x_X8_clockwise fr to)) m = R2 at ih ⊢
      unfold m_worstSlew_b68 x_X8_worstSlew_b44 m_worstSlew_j107 x_X8_worstSlew_j121
      by_cases c : (x_X8_clockwise fr to).toNatClampNeg < k
      · have hv2 : v6 = w6 := hv.resolve_left fun q => by omega
        rw [if_pos c, if_pos c, hv2]
        split <;> rfl
      · rw [if_neg c, if_neg c]
        have ek := nI_toInt (n := k) (by omega)
        have es := zrem (zadd (x := fr) (y := nI k) rfl ek (by omega) (by omega)) l_3600 (by omega) (by omega)
        obtain ⟨er, r0, r1⟩ := q_rated hc hG (le := z 0) (ra := mRad z) (sl := fr + nI k - (fr + nI k) / 3600 * 3600) ln.1 ln.2 (by omega) (by omega)
        have eu := q_utiliz (ld := m_netLoad (mMas z) z) (net_r _) r0
        have ug := utiliz_ge (ld := m_netLoad (mMas z) z) (net_r _) r0
        simp only [spLet_x, er, eu, utilAt_e]
        generalize m_utilizationOf (m_netLoad (mMas z) z) (m_ratedFor z (z 0) (mRad z) (fr + nI k - (fr + nI k) / 3600 * 3600)) = q at ug ⊢
        by_cases d : q ≤ v5
        · have hk : ¬ (k = 0 ∧ v5 = -1) := fun e => by
            have := Int32.le_iff_toInt_le.mp d
            rw [e.2, show ((-1 : Int32)).toInt = -1 by decide] at this
            omega
          rw [if_pos d, if_pos d]
          have eg : m_greater v5 q = v5 := by
            unfold m_greater
            by_cases f : v5 ≤ q
            · rw [if_pos f]; exact Int32.le_antisymm d f
            · rw [if_neg f]
          rw [eg]
          exact ih (k + 50) v5 v6 w6 (by omega) (by omega) (Or.inr (hv.resolve_left hk))
        · rw [if_neg d, if_neg d]
          have eg : m_greater v5 q = q := by
            unfold m_greater
            rw [if_pos (Int32.le_of_lt (Int32.not_le.mp d))]
          rw [eg]
          exact ih (k + 50) q _ _ (by omega) (by omega) (Or.inr rfl)
  refine ⟨mMas z, mRad z, ?_⟩
  unfold m_worstSlew x_X8_worstSlew
  rw [a4, a5, a8, a9, a10]
  simp only [spLet_x, q_read hG, em, eway]
  rw [in_1 ⟨by rw [l_0]; exact f0, by rw [z35]; exact f1⟩, in_1 ⟨by rw [l_0]; exact t0, by rw [z35]; exact t1⟩, in_1 h3, if_neg (by decide), if_neg (by decide), if_neg (by decide)]
  exact key 74 0 (-1) fr (-1) (by omega) (by omega) (Or.inl ⟨rfl, rfl⟩)
theorem q_worst_1 {fr to wh : Int32} (h : ¬ (okA fr 0 3599 ∧ okA to 0 3599 ∧ okA wh 0 1)) (mm mr : Int32) : m_worstSlew mm mr z fr to wh = (0, 1, mm, mr) := by
  have ej : m_worstSlew_j36 mm mr = (0, 1, mm, mr) := by
    unfold m_worstSlew_j36 m_fails
    simp only [spLet_x]
  unfold m_worstSlew
  simp only [spLet_x, ej]
  by_cases h1 : okA fr 0 3599
  · rw [in_1 h1, if_neg (by decide)]
    by_cases h2 : okA to 0 3599
    · rw [in_1 h2, if_neg (by decide), in_0 (fun k => h ⟨h1, h2, k⟩), if_pos rfl]
    · rw [in_0 h2, if_pos rfl]
  · rw [in_0 h1, if_pos rfl]
/-- undo -/
def unR (zs zv : Nat → Int32) (s k : Nat) : Nat → Int32 := fun q => if k ≤ q ∧ q < 246 then zv (246 * s + q) else zs q
theorem un_s (zs zv : Nat → Int32) (s k : Nat) (hk : k < 246) : unR (upd zs k (zv (246 * s + k))) zv s (k + 1) = unR zs zv s k := by
  funext q
  unfold unR upd
  by_cases h : q = k
  · subst h
    rw [if_neg (by omega), if_pos rfl, if_pos (by omega)]
  · by_cases h2 : k + 1 ≤ q ∧ q < 246
    · rw [if_pos h2, if_pos (by omega)]
    · rw [if_neg h2, if_neg h, if_neg (by omega)]
theorem un_loop (zv : Nat → Int32) (x : Int32) : ∀ (m k : Nat) (w : Nat → Int32), k ≤ 246 → 246 < k + m → spIter (fun _ _ => default) (m_undo_b30 zv x) m k w = (x, x, 0, unR w zv x.toNatClampNeg k) := by
  intro m
  induction m with
  | zero => intro k w h h1; omega
  | succ m ih =>
    intro k w h h1
    show m_undo_b30 zv x (spIter (fun _ _ => default) (m_undo_b30 zv x) m) k w = _
    generalize spIter (fun _ _ => default) (m_undo_b30 zv x) m = R at ih ⊢
    unfold m_undo_b30
    simp only [spLet_x]
    by_cases c : 246 ≤ k
    · have e : unR w zv x.toNatClampNeg k = w := by
        funext q
        unfold unR
        rw [if_neg (by omega)]
      rw [if_pos c, e]
    · rw [if_neg c]
      have := ih (k + 1) (upd w k (zv (246 * x.toNatClampNeg + k))) (by omega) (by omega)
      rw [un_s w zv _ k (by omega)] at this
      exact this
theorem sub1_n {s : Nat} (h : 0 < s) (h2 : s ≤ 4) : nI s - 1 = nI (s - 1) := by
  rcases (show s = 1 ∨ s = 2 ∨ s = 3 ∨ s = 4 by omega) with rfl | rfl | rfl | rfl <;> rfl
theorem q_undo {svc svn svm : Int32} {ro : Nat → Option rowT} {zv : Nat → Int32} {n : Nat} (h : savR svc svn ro svm zv n) (h1 : okS (if svc ≤ 0 then (0 : Int32) else 1)) :
    ∃ A w a iv av, m_undo svm z zv = (A, A, 0, w) ∧ x_X8_undo svc svn = (A, A, j_J9_floorMod_7cf53 (svn - 1) 4) ∧ ro (j_J9_floorMod_7cf53 (svn - 1) 4).toNatClampNeg = some (a, iv, av) ∧ relSt iv av w ∧ bnd n w ∧ savR A (j_J9_floorMod_7cf53 (svn - 1) 4) ro A zv n := by
  obtain ⟨s, p, e1, e2, e3, h4, hp4, hrows⟩ := h
  have c := okS_if'.mp h1
  have es := nI_toInt (n := s) (by omega)
  have s0 : 0 < s := by
    have : ¬ svc.toInt ≤ 0 := fun k => c ((le_i l_0).mpr k)
    rw [e1, es] at this
    omega
  have ep : svn.toNatClampNeg = p := by rw [e3, nI_clamp (by omega)]
  have ef := fm4_e (x := svn) (by rw [ep]; exact e3) (by omega)
  rw [ep] at ef
  have em : svm.toNatClampNeg = s := by rw [e2, nI_clamp (by omega)]
  obtain ⟨a, iv, av, r1, r2, r3⟩ := hrows (s - 1) (by omega)
  have ee : ∀ q, q < 246 → unR z zv (s - 1) 0 q = zv (246 * (s - 1) + q) := fun q hq => by
    unfold unR
    rw [if_pos (by omega)]
  refine ⟨nI (s - 1), unR z zv (s - 1) 0, a, iv, av, ?_, ?_, ?_, r2.cong ee, r3.cong ee, ?_⟩
  · unfold m_undo
    rw [em, if_neg (by omega), spLet_x, e2, sub1_n s0 h4, un_loop zv (nI (s - 1)) 247 0 z (by omega) (by omega), nI_clamp (by omega)]
  · unfold x_X8_undo x_X8_undo_j12
    rw [if_neg c]
    simp only [spLet_x]
    rw [e1, sub1_n s0 h4]
  · rw [ef, nI_clamp (by omega), ← r1]
    exact congrArg _ (by omega)
  · refine ⟨s - 1, (p + 3) % 4, rfl, rfl, ef, by omega, by omega, fun j hj => ?_⟩
    obtain ⟨a', iv', av', q1, q2, q3⟩ := hrows j (by omega)
    refine ⟨a', iv', av', ?_, q2, q3⟩
    rw [← q1]
    exact congrArg _ (by omega)
theorem q_undo_1 {svc svn svm : Int32} {ro : Nat → Option rowT} {zv : Nat → Int32} {n : Nat} (h : savR svc svn ro svm zv n) (h1 : ¬ okS (if svc ≤ 0 then (0 : Int32) else 1)) : m_undo svm z zv = (0, svm, 1, z) := by
  obtain ⟨s, p, e1, e2, e3, h4, hp4, hrows⟩ := h
  have c : svc ≤ 0 := Decidable.not_not.mp (mt okS_if'.mpr h1)
  have es := nI_toInt (n := s) (by omega)
  have s0 : s = 0 := by
    have := (le_i l_0).mp c
    rw [e1, es] at this
    omega
  have em : svm.toNatClampNeg = s := by rw [e2, nI_clamp (by omega)]
  unfold m_undo m_fails
  rw [em, if_pos s0, spLet_x]
/-- text -/
theorem q_type {tl va : Int32} {xf zt : Nat → Int32} (h1 : okA va 0 127) (ht : tl = nI tl.toNatClampNeg) (h8 : tl.toNatClampNeg ≤ 80) (h2 : okS (if 80 ≤ tl.toNatClampNeg then (0 : Int32) else 1)) (he : ∀ k, k < 80 → xf k = zt k) :
    ∃ A xf' zt', m_type tl zt va = (A, A, 0, zt') ∧ x_X8_type tl xf va = (A, A, xf') ∧ A = nI A.toNatClampNeg ∧ A.toNatClampNeg ≤ 80 ∧ ∀ k, k < 80 → xf' k = zt' k := by
  have c := okS_if'.mp h2
  refine ⟨nI (tl.toNatClampNeg + 1), upd xf tl.toNatClampNeg va, upd zt tl.toNatClampNeg va, ?_, ?_, ?_, ?_, fun k hk => ?_⟩
  · unfold m_type
    simp only [spLet_x]
    rw [in_1 h1, if_neg (by decide), if_neg (by omega)]
  · unfold x_X8_type x_X8_type_j24 x_X8_type_j66
    rw [if_neg c, spLet_x]
  · rw [nI_clamp (by omega)]
  · rw [nI_clamp (by omega)]; omega
  · by_cases e : k = tl.toNatClampNeg
    · rw [e, upd_s, upd_s]
    · rw [upd_o _ _ _ e, upd_o _ _ _ e, he k hk]
theorem q_type_1 {tl va : Int32} {zt : Nat → Int32} (h1 : ¬ okA va 0 127) : m_type tl zt va = (0, tl, 1, zt) := by
  unfold m_type m_fails
  simp only [spLet_x]
  rw [in_0 h1, if_pos rfl]
theorem q_type_2 {tl va : Int32} {zt : Nat → Int32} (h1 : okA va 0 127) (h8 : tl.toNatClampNeg ≤ 80) (h2 : ¬ okS (if 80 ≤ tl.toNatClampNeg then (0 : Int32) else 1)) : m_type tl zt va = (0, tl, 2, zt) := by
  have c : 80 ≤ tl.toNatClampNeg := Decidable.not_not.mp (mt okS_if'.mpr h2)
  unfold m_type m_fails
  simp only [spLet_x]
  rw [in_1 h1, if_neg (by decide), if_pos (by omega)]
end WS
