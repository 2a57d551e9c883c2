/-! both sides: a run of ticks -/
theorem opp_d : ∀ n, n < 256 → (((nI n &&& (nI n >>> ((1 : Int32) &&& 31))) &&& 85 = 0) ↔ ∀ k ∈ [0, 2, 4, 6], ¬ nI n &&& ((3 : Int32) <<< (nI k &&& 31)) = (3 : Int32) <<< (nI k &&& 31)) := by decide +kernel
theorem mos_byt {mos : Int32} (h : okA mos 0 255) : byt mos := by
  obtain ⟨a, b⟩ := okA_n (n := 255) (by decide) h
  exact ⟨a, by omega⟩
theorem isMo_1 {mos : Int32} (h1 : okA mos 0 255) (h2 : okN mos) : m_isMotions mos = 1 := by
  obtain ⟨a, b⟩ := mos_byt h1
  have d := opp_d _ b
  rw [← a] at d
  unfold m_isMotions
  simp only [spLet_x]
  rw [in_1 h1, if_neg (by decide), if_pos (d.mpr h2)]
theorem isMo_0 {mos : Int32} (h : ¬ (okA mos 0 255 ∧ okN mos)) : m_isMotions mos = 0 := by
  unfold m_isMotions
  simp only [spLet_x]
  by_cases h1 : okA mos 0 255
  · obtain ⟨a, b⟩ := mos_byt h1
    have d := opp_d _ b
    rw [← a] at d
    rw [in_1 h1, if_neg (by decide), if_neg (fun k => h ⟨h1, d.mp k⟩)]
  · rw [in_0 h1, if_pos rfl]
/-- the state behind a tick, in the class's order -/
def ivT (iv w : Nat → Int32) (go gc yg : Int32) : Nat → Int32 := stI (w 7) (w 8) (w 9) (w 11) (w 0) (w 1) (w 2) (w 3) (w 4) (iv 9) (iv 10) (iv 11) (iv 12) go gc yg
def avT (av : Nat → Nat → Int32) (gt gk gv ys yl : Nat → Int32) : Nat → Nat → Int32 := stA (av 0) (av 1) (av 2) (av 3) gt gk gv ys yl
theorem run_loop {ma ta cw zc mos tk : Int32} {cv ce cs zf : Nat → Int32} (hm : byt mos) (u : Int32 × Int32) (v : Int32 × (Nat → Int32)) : ∀ (n k : Nat) (r mm mr : Int32) (z zp : Nat → Int32) (go gc yg : Int32) (gt gk gv ys yl : Nat → Int32) (b : Nat), k ≤ tk.toNatClampNeg → tk.toNatClampNeg < k + n → relZ cw zc go gc yg cv ce cs zf gt gk gv ys yl z → z 6 = ma → z 5 = ta → b + tk.toNatClampNeg < 2000000000 + k → bnd b z →
    ∃ r' mm' mr' w zp' go' gc' yg' gt' gk' gv' ys' yl', spIter (fun _ _ _ _ _ _ _ _ _ _ _ _ _ _ _ _ _ _ _ => default) (x_X8_run_b28 ma ta cw cv ce cs zc zf mos tk u) n r k (z 7) (z 8) (z 9) (z 11) (z 0) (z 1) (z 2) (z 3) (z 4) go gc gt gk gv yg ys yl = (r', u.1, u.2, w 7, w 8, w 9, w 11, w 0, w 1, w 2, w 3, w 4, go', gc', gt', gk', gv', yg', ys', yl') ∧
      spIter (fun _ _ _ _ _ _ => default) (m_run_b37 mos tk v) n r k mm mr z zp = (r', v.1, 0, mm', mr', w, v.2, zp') ∧ relZ cw zc go' gc' yg' cv ce cs zf gt' gk' gv' ys' yl' w ∧ w 6 = ma ∧ w 5 = ta ∧ bnd (b + (tk.toNatClampNeg - k)) w := by
  intro n
  induction n with
  | zero => intro k r mm mr z zp go gc yg gt gk gv ys yl b h1 h2; omega
  | succ n ih =>
    intro k r mm mr z zp go gc yg gt gk gv ys yl b h1 h2 hr h6 h5 hb hB
    show ∃ r' mm' mr' w zp' go' gc' yg' gt' gk' gv' ys' yl', x_X8_run_b28 ma ta cw cv ce cs zc zf mos tk u (spIter (fun _ _ _ _ _ _ _ _ _ _ _ _ _ _ _ _ _ _ _ => default) (x_X8_run_b28 ma ta cw cv ce cs zc zf mos tk u) n) r k (z 7) (z 8) (z 9) (z 11) (z 0) (z 1) (z 2) (z 3) (z 4) go gc gt gk gv yg ys yl = (r', u.1, u.2, w 7, w 8, w 9, w 11, w 0, w 1, w 2, w 3, w 4, go', gc', gt', gk', gv', yg', ys', yl') ∧
      m_run_b37 mos tk v (spIter (fun _ _ _ _ _ _ => default) (m_run_b37 mos tk v) n) r k mm mr z zp = (r', v.1, 0, mm', mr', w, v.2, zp') ∧ relZ cw zc go' gc' yg' cv ce cs zf gt' gk' gv' ys' yl' w ∧ w 6 = ma ∧ w 5 = ta ∧ bnd (b + (tk.toNatClampNeg - k)) w
    have ih2 := ih (k + 1)
    clear ih
    generalize spIter (fun _ _ _ _ _ _ _ _ _ _ _ _ _ _ _ _ _ _ _ => default) (x_X8_run_b28 ma ta cw cv ce cs zc zf mos tk u) n = R1 at ih2 ⊢
    generalize spIter (fun _ _ _ _ _ _ => default) (m_run_b37 mos tk v) n = R2 at ih2 ⊢
    unfold x_X8_run_b28 m_run_b37
    by_cases c : tk.toNatClampNeg ≤ k
    · rw [if_pos c, if_pos c]
      exact ⟨r, mm, mr, z, zp, go, gc, yg, gt, gk, gv, ys, yl, rfl, rfl, hr, h6, h5, hB.o' (by omega)⟩
    · rw [if_neg c, if_neg c]
      obtain ⟨go1, gc1, gt1, gk1, gv1, yg1, ys1, yl1, e1, r1, ⟨f5, f6⟩, B1⟩ := q_tick hr hm mm mr zp
      rw [h6, h5] at e1
      have B2 := B1 b (by omega) hB
      rw [e1]
      unfold x_X8_run_j45 m_run_j57
      simp only [spLet_x]
      generalize m_tick mm mr z zp mos = T at r1 f5 f6 B2 ⊢
      by_cases d : T.1 = 0
      · rw [if_pos d, if_pos d, Int32.add_zero]
        obtain ⟨a1, a2, a3, a4, a5, a6, a7, a8, a9, a10, a11, a12, a13, p1, p2, p3, p4, p5, p6⟩ := ih2 r T.2.1 T.2.2.1 T.2.2.2.1 T.2.2.2.2 go1 gc1 yg1 gt1 gk1 gv1 ys1 yl1 (b + 1) (by omega) (by omega) r1 (by rw [f6, h6]) (by rw [f5, h5]) (by omega) B2
        exact ⟨a1, a2, a3, a4, a5, a6, a7, a8, a9, a10, a11, a12, a13, p1, p2, p3, p4, p5, p6.o' (by omega)⟩
      · rw [if_neg d, if_neg d]
        obtain ⟨a1, a2, a3, a4, a5, a6, a7, a8, a9, a10, a11, a12, a13, p1, p2, p3, p4, p5, p6⟩ := ih2 (r + 1) T.2.1 T.2.2.1 T.2.2.2.1 T.2.2.2.2 go1 gc1 yg1 gt1 gk1 gv1 ys1 yl1 (b + 1) (by omega) (by omega) r1 (by rw [f6, h6]) (by rw [f5, h5]) (by omega) B2
        exact ⟨a1, a2, a3, a4, a5, a6, a7, a8, a9, a10, a11, a12, a13, p1, p2, p3, p4, p5, p6.o' (by omega)⟩
theorem relSt_T {iv : Nat → Int32} {av : Nat → Nat → Int32} {w : Nat → Int32} {go gc yg : Int32} {gt gk gv ys yl : Nat → Int32} (hr : relZ (iv 11) (iv 12) go gc yg (av 0) (av 1) (av 2) (av 3) gt gk gv ys yl w) (h6 : w 6 = iv 9) (h5 : w 5 = iv 10) : relSt (ivT iv w go gc yg) (avT av gt gk gv ys yl) w := ⟨⟨rfl, rfl, rfl, rfl, rfl, rfl, rfl, rfl, rfl, h6.symm, h5.symm⟩, hr⟩
theorem q_run {iv : Nat → Int32} {av : Nat → Nat → Int32} {z : Nat → Int32} {b : Nat} (h : relSt iv av z) {mos tk : Int32} (h1 : okA mos 0 255) (h2 : okN mos) (h3 : okA tk 1 100) (hb : b < 1000000000) (hB : bnd b z) (svm svc svn mm mr : Int32) (zv zp : Nat → Int32) :
    ∃ A mm' mr' w zp' go gc yg gt gk gv ys yl, m_run svm mm mr z zv zp mos tk = (A, (m_keep svm z zv).1, 0, mm', mr', w, (m_keep svm z zv).2, zp') ∧ x_X8_run svc svn (iv 0) (iv 1) (iv 2) (iv 3) (iv 4) (iv 5) (iv 6) (iv 7) (iv 8) (iv 9) (iv 10) (iv 11) (av 0) (av 1) (av 2) (iv 12) (av 3) (iv 13) (iv 14) (av 4) (av 5) (av 6) (iv 15) (av 7) (av 8) mos tk = (A, (x_X8_saveN svc svn).1, (x_X8_saveN svc svn).2, w 7, w 8, w 9, w 11, w 0, w 1, w 2, w 3, w 4, go, gc, gt, gk, gv, yg, ys, yl) ∧ relSt (ivT iv w go gc yg) (avT av gt gk gv ys yl) w ∧ bnd (b + 100) w := by
  obtain ⟨⟨a0, a1, a2, a3, a4, a5, a6, a7, a8, a9, a10⟩, hr⟩ := h
  obtain ⟨t1, t2⟩ := okA_n1 (n := 100) (by decide) h3
  obtain ⟨r', mm', mr', w, zp', go, gc, yg, gt, gk, gv, ys, yl, e1, e2, e3, e4, e5, e6⟩ := run_loop (ma := z 6) (ta := z 5) (tk := tk) (mos_byt h1) (x_X8_saveN svc svn) (m_keep svm z zv) (tk.toNatClampNeg + 1) 0 0 mm mr z zp (iv 13) (iv 14) (iv 15) (av 4) (av 5) (av 6) (av 7) (av 8) b (by omega) (by omega) hr rfl rfl (by omega) hB
  refine ⟨r', mm', mr', w, zp', go, gc, yg, gt, gk, gv, ys, yl, ?_, ?_, relSt_T e3 (by rw [e4, a9]) (by rw [e5, a10]), e6.o' (by omega)⟩
  · unfold m_run
    simp only [spLet_x]
    rw [isMo_1 h1 h2, in_1 h3, if_neg (by decide), if_neg (by decide), e2]
  · unfold x_X8_run
    simp only [spLet_x]
    rw [a0, a1, a2, a3, a4, a5, a6, a7, a8, a9, a10, e1]
theorem q_run_1 {mos tk : Int32} (h : ¬ (okA mos 0 255 ∧ okN mos ∧ okA tk 1 100)) (svm mm mr : Int32) (z zv zp : Nat → Int32) : m_run svm mm mr z zv zp mos tk = (0, svm, 1, mm, mr, z, zv, zp) := by
  have ej : m_run_j22 svm mm mr z zv zp = (0, svm, 1, mm, mr, z, zv, zp) := by
    unfold m_run_j22 m_fails
    simp only [spLet_x]
  unfold m_run
  simp only [spLet_x, ej]
  by_cases h1 : okA mos 0 255 ∧ okN mos
  · rw [isMo_1 h1.1 h1.2, if_neg (by decide), in_0 (fun k => h ⟨h1.1, h1.2, k⟩), if_pos rfl]
  · rw [isMo_0 h1, if_pos rfl]
