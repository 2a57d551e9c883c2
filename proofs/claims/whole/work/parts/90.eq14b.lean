/-! both sides: further calls that change the state -/
section CH
variable {iv : Nat → Int32} {av : Nat → Nat → Int32} {z : Nat → Int32} {n : Nat}
theorem q_setBoom (h : relSt iv av z) {nl na ns : Int32} (h1 : okA nl 1000 6000 ∧ okA na 0 850 ∧ okA ns 0 3599) (h2 : okS (if iv 8 = 0 then (1 : Int32) else 0)) (svm svc svn : Int32) (zv : Nat → Int32) :
    ∃ A w, m_setBoom svm z zv nl na ns = (A, (m_keep svm z zv).1, 0, w, (m_keep svm z zv).2) ∧ x_X8_setBoom svc svn (iv 8) (iv 12) (av 3) nl na ns = (A, (x_X8_saveN svc svn).1, (x_X8_saveN svc svn).2, nl, na, ns, 0) ∧ relSt (ivu (ivu (ivu (ivu iv 4 nl) 5 na) 6 ns) 7 0) av w ∧ (bnd n z → bnd n w) := by
  obtain ⟨hn, hr⟩ := h
  have hG := hr.G
  have b8 := okS_if.mp h2
  have e8 := hn.2.2.2.2.2.2.2.2.1
  have o : ∀ q, 3 < q → upd (upd (upd (upd z 0 nl) 1 na) 2 ns) 3 0 q = z q := fun q hq => by rw [upd_o _ _ _ (by omega), upd_o _ _ _ (by omega), upd_o _ _ _ (by omega), upd_o _ _ _ (by omega)]
  have b0 : mlo 0 ≤ nl.toInt ∧ nl.toInt ≤ mhi 0 := h1.1
  have b1 : mlo 1 ≤ na.toInt ∧ na.toInt ≤ mhi 1 := h1.2.1
  have b2 : mlo 2 ≤ ns.toInt ∧ ns.toInt ≤ mhi 2 := h1.2.2
  have b3 : mlo 3 ≤ ((0 : Int32)).toInt ∧ ((0 : Int32)).toInt ≤ mhi 3 := by decide
  have G : mG (upd (upd (upd (upd z 0 nl) 1 na) 2 ns) 3 0) := mG.upd (mG.upd (mG.upd (mG.upd hG fun _ => b0) fun _ => b1) fun _ => b2) fun _ => b3
  have hz : cZon (iv 12) (av 3) (upd (upd (upd (upd z 0 nl) 1 na) 2 ns) 3 0) := hr.2.1.up fun q hq => o q (by omega)
  have ev := q_violation (zf := av 3) (zs := upd (upd (upd (upd z 0 nl) 1 na) 2 ns) 3 0) hz.2 G
  rw [← hz.1] at ev
  refine ⟨m_violation (upd (upd (upd (upd z 0 nl) 1 na) 2 ns) 3 0), upd (upd (upd (upd z 0 nl) 1 na) 2 ns) 3 0, ?_, ?_, ⟨?_, ?_⟩, fun hb => hb.up fun q hq => o q (by omega)⟩
  · unfold m_setBoom
    simp only [spLet_x]
    rw [posi_1 h1, if_neg (by decide), if_pos (by rw [← e8]; exact b8)]
  · unfold x_X8_setBoom x_X8_setBoom_j24 x_X0_place
    simp only [spLet_x]
    rw [if_pos b8]
    exact congrArg (fun t => (t, (x_X8_saveN svc svn).1, (x_X8_saveN svc svn).2, nl, na, ns, (0 : Int32))) ev
  · obtain ⟨a0, a1, a2, a3, a4, a5, a6, a7, a8, a9, a10⟩ := hn
    exact ⟨a0, a1, a2, a3, rfl, rfl, rfl, rfl, a8, a9, a10⟩
  · exact hr.re (hr.1.up fun q hq => o q (by omega)) hz G fun q hq => o q (by omega)
theorem q_setBoom_1 {nl na ns : Int32} (h1 : ¬ (okA nl 1000 6000 ∧ okA na 0 850 ∧ okA ns 0 3599)) (svm : Int32) (zv : Nat → Int32) : m_setBoom svm z zv nl na ns = (0, svm, 1, z, zv) := by
  unfold m_setBoom m_fails
  simp only [spLet_x]
  rw [posi_0 h1, if_pos rfl]
theorem q_setBoom_2 (h : relSt iv av z) {nl na ns : Int32} (h1 : okA nl 1000 6000 ∧ okA na 0 850 ∧ okA ns 0 3599) (h2 : ¬ okS (if iv 8 = 0 then (1 : Int32) else 0)) (svm : Int32) (zv : Nat → Int32) : m_setBoom svm z zv nl na ns = (0, svm, 2, z, zv) := by
  have e8 := h.1.2.2.2.2.2.2.2.2.1
  unfold m_setBoom m_fails
  simp only [spLet_x]
  rw [posi_1 h1, if_neg (by decide), if_neg (fun k => h2 (okS_if.mpr (by rw [e8]; exact k)))]
end CH
