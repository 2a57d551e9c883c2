/-! both sides: further calls that change the state -/
section CH
variable {iv : Nat → Int32} {av : Nat → Nat → Int32} {z : Nat → Int32} {n : Nat}
theorem put_val {cv : Nat → Int32} {t i j : Nat} (ht : t < 4) (hi : i < 4) (hj : j < 6) (v : Int32) : x_X1_putValue cv (nI t) (nI i) (nI j) v = upd cv (24 * t + 6 * i + j) v := by
  have e : (nI t * (24 : Int32)) + (nI i * (6 : Int32)) + nI j = nI (24 * t + 6 * i + j) := by
    rw [show (24 : Int32) = nI 24 from rfl, show (6 : Int32) = nI 6 from rfl, Nat.mul_comm 24, Nat.mul_comm 6]
    exact nadd (nadd (nmul rfl rfl) (nmul rfl rfl)) rfl
  have e2 := nI_toInt (n := 24 * t + 6 * i + j) (by omega)
  have z2 : ((96 : Int32)).toInt = 96 := by decide
  unfold x_X1_putValue
  simp only [spLet_x, e]
  rw [if_neg (fun k => by have := (lt_i l_0).mp k; omega), if_neg (fun k => by have := (i_le z2).mp k; omega), nI_clamp (by omega)]
theorem q_setCapacity (h : relSt iv av z) {ta ro co ma : Int32} (h1 : okI ta 4 ∧ okI ro 4 ∧ okI co 6) (h2 : okA ma 0 100000) (svm svc svn : Int32) (zv : Nat → Int32) :
    ∃ A cv' w, m_setCapacity svm z zv ta ro co ma = (A, (m_keep svm z zv).1, 0, w, (m_keep svm z zv).2) ∧ x_X8_setCapacity svc svn (av 0) ta ro co ma = (A, (x_X8_saveN svc svn).1, (x_X8_saveN svc svn).2, cv') ∧ relSt iv (avu av 0 cv') w ∧ (bnd n z → bnd n w) := by
  obtain ⟨hn, hr⟩ := h
  have hG := hr.G
  have hc := hr.1
  obtain ⟨t1, t2⟩ := okI_n h1.1
  obtain ⟨r1, r2⟩ := okI_n h1.2.1
  obtain ⟨c1, c2⟩ := okI_n h1.2.2
  have t4 : ta.toNatClampNeg < 4 := t2
  have r4 : ro.toNatClampNeg < 4 := r2
  have c6 : co.toNatClampNeg < 6 := c2
  have hv := x_val (cv := av 0) hc.2.1 (t := ta.toNatClampNeg) (i := ro.toNatClampNeg) (j := co.toNatClampNeg) t4 r4 c6
  have hp := put_val (cv := av 0) (t := ta.toNatClampNeg) (i := ro.toNatClampNeg) (j := co.toNatClampNeg) t4 r4 c6 ma
  rw [← t1, ← r1, ← c1] at hv hp
  refine ⟨z (47 + 24 * ta.toNatClampNeg + 6 * ro.toNatClampNeg + co.toNatClampNeg), upd (av 0) (24 * ta.toNatClampNeg + 6 * ro.toNatClampNeg + co.toNatClampNeg) ma, upd z (47 + 24 * ta.toNatClampNeg + 6 * ro.toNatClampNeg + co.toNatClampNeg) ma, ?_, ?_, ⟨?_, ?_⟩, ?_⟩
  · unfold m_setCapacity
    simp only [spLet_x, change_e]
    rw [place_1 h1, in_1 h2]
    rfl
  · unfold x_X8_setCapacity
    simp only [spLet_x, hv, hp]
  · obtain ⟨a0, a1, a2, a3, a4, a5, a6, a7, a8, a9, a10⟩ := hn
    refine ⟨?_, ?_, ?_, ?_, ?_, ?_, ?_, ?_, ?_, ?_, ?_⟩ <;> (rw [upd_o _ _ _ (by omega)]; assumption)
  · refine hr.re ⟨by rw [upd_o _ _ _ (by omega)]; exact hc.1, fun k hk => ?_, fun k hk => by rw [upd_o _ _ _ (by omega)]; exact hc.2.2.1 k hk, fun k hk => by rw [upd_o _ _ _ (by omega)]; exact hc.2.2.2 k hk⟩ (hr.2.1.up fun q hq => upd_o _ _ _ (by omega)) (mG.upd hG fun _ => ?_) fun q hq => upd_o _ _ _ (by omega)
    · show upd (av 0) (24 * ta.toNatClampNeg + 6 * ro.toNatClampNeg + co.toNatClampNeg) ma k = _
      by_cases e : k = 24 * ta.toNatClampNeg + 6 * ro.toNatClampNeg + co.toNatClampNeg
      · rw [e, upd_s, show 47 + (24 * ta.toNatClampNeg + 6 * ro.toNatClampNeg + co.toNatClampNeg) = 47 + 24 * ta.toNatClampNeg + 6 * ro.toNatClampNeg + co.toNatClampNeg by omega, upd_s]
      · rw [upd_o _ _ _ e, upd_o _ _ _ (by omega), hc.2.1 k hk]
    · obtain ⟨m1, m2⟩ := mlh_tab (47 + 24 * ta.toNatClampNeg + 6 * ro.toNatClampNeg + co.toNatClampNeg) (by omega) (by omega)
      rw [m1, m2]
      exact h2
  · exact fun hb => hb.up fun q hq => upd_o _ _ _ (by omega)
theorem q_setCapacity_1 {ta ro co ma : Int32} (h1 : ¬ (okI ta 4 ∧ okI ro 4 ∧ okI co 6)) (svm : Int32) (zv : Nat → Int32) : m_setCapacity svm z zv ta ro co ma = (0, svm, 1, z, zv) := by
  unfold m_setCapacity m_fails
  simp only [spLet_x]
  rw [place_0 h1, if_pos rfl]
theorem q_setCapacity_2 {ta ro co ma : Int32} (h1 : okI ta 4 ∧ okI ro 4 ∧ okI co 6) (h2 : ¬ okA ma 0 100000) (svm : Int32) (zv : Nat → Int32) : m_setCapacity svm z zv ta ro co ma = (0, svm, 2, z, zv) := by
  unfold m_setCapacity m_fails
  simp only [spLet_x]
  rw [place_1 h1, in_0 h2, if_neg (by decide), if_pos rfl]
/-- a plain number: iv's place i is cell c -/
theorem relSt.num (h : relSt iv av z) {i c : Nat} {v : Int32} (hic : (i = 2 ∧ c = 9) ∨ (i = 9 ∧ c = 6) ∨ (i = 10 ∧ c = 5)) (hv : mlo c ≤ v.toInt ∧ v.toInt ≤ mhi c) : relSt (ivu iv i v) av (upd z c v) := by
  obtain ⟨hn, hr⟩ := h
  have hG := hr.G
  refine ⟨?_, ?_⟩
  · obtain ⟨a0, a1, a2, a3, a4, a5, a6, a7, a8, a9, a10⟩ := hn
    rcases hic with ⟨rfl, rfl⟩ | ⟨rfl, rfl⟩ | ⟨rfl, rfl⟩
    · exact ⟨a0, a1, rfl, a3, a4, a5, a6, a7, a8, a9, a10⟩
    · exact ⟨a0, a1, a2, a3, a4, a5, a6, a7, a8, rfl, a10⟩
    · exact ⟨a0, a1, a2, a3, a4, a5, a6, a7, a8, a9, rfl⟩
  · rw [ivu_o _ _ _ (by omega), ivu_o _ _ _ (by omega), ivu_o _ _ _ (by omega), ivu_o _ _ _ (by omega), ivu_o _ _ _ (by omega)]
    exact hr.re (hr.1.up fun q hq => upd_o _ _ _ (by omega)) (hr.2.1.up fun q hq => upd_o _ _ _ (by omega)) (mG.upd hG fun _ => hv) fun q hq => upd_o _ _ _ (by omega)
theorem q_setTare (h : relSt iv av z) {ma : Int32} (h1 : okA ma 0 2000) (svm svc svn : Int32) (zv : Nat → Int32) :
    ∃ A w, m_setTare svm z zv ma = (A, (m_keep svm z zv).1, 0, w, (m_keep svm z zv).2) ∧ x_X8_setTare svc svn (iv 10) ma = (A, (x_X8_saveN svc svn).1, (x_X8_saveN svc svn).2, ma) ∧ relSt (ivu iv 10 ma) av w ∧ (bnd n z → bnd n w) := by
  have e := h.1.2.2.2.2.2.2.2.2.2.2
  refine ⟨z 5, upd z 5 ma, ?_, ?_, h.num (by omega) h1, fun hb => hb.up fun q hq => upd_o _ _ _ (by omega)⟩
  · unfold m_setTare
    simp only [spLet_x, change_e]
    rw [in_1 h1]
    rfl
  · unfold x_X8_setTare
    simp only [spLet_x, e]
theorem q_setTare_1 {ma : Int32} (h1 : ¬ okA ma 0 2000) (svm : Int32) (zv : Nat → Int32) : m_setTare svm z zv ma = (0, svm, 1, z, zv) := by
  unfold m_setTare m_fails
  simp only [spLet_x]
  rw [in_0 h1, if_pos rfl]
theorem q_bypass (h : relSt iv av z) {tk : Int32} (h1 : okA tk 0 1000) (svm svc svn : Int32) (zv : Nat → Int32) :
    ∃ A w, m_bypass svm z zv tk = (A, (m_keep svm z zv).1, 0, w, (m_keep svm z zv).2) ∧ x_X8_bypass svc svn (iv 2) tk = (A, (x_X8_saveN svc svn).1, (x_X8_saveN svc svn).2, tk) ∧ relSt (ivu iv 2 tk) av w ∧ (bnd n z → bnd n w) := by
  have e := h.1.2.2.1
  refine ⟨z 9, upd z 9 tk, ?_, ?_, h.num (by omega) h1, fun hb => hb.up fun q hq => upd_o _ _ _ (by omega)⟩
  · unfold m_bypass
    simp only [spLet_x, change_e]
    rw [in_1 h1]
    rfl
  · unfold x_X8_bypass
    simp only [spLet_x, e]
theorem q_bypass_1 {tk : Int32} (h1 : ¬ okA tk 0 1000) (svm : Int32) (zv : Nat → Int32) : m_bypass svm z zv tk = (0, svm, 1, z, zv) := by
  unfold m_bypass m_fails
  simp only [spLet_x]
  rw [in_0 h1, if_pos rfl]
theorem okS_if {p : Prop} [Decidable p] : okS (if p then (1 : Int32) else 0) ↔ p := by
  unfold okS
  by_cases c : p
  · rw [if_pos c]; exact ⟨fun _ => c, fun _ => by decide⟩
  · rw [if_neg c]; exact ⟨fun k => absurd rfl k, fun k => absurd k c⟩
theorem okS_if' {p : Prop} [Decidable p] : okS (if p then (0 : Int32) else 1) ↔ ¬ p := by
  unfold okS
  by_cases c : p
  · rw [if_pos c]; exact ⟨fun k => absurd rfl k, fun k => absurd c k⟩
  · rw [if_neg c]; exact ⟨fun _ => c, fun _ => by decide⟩
theorem q_attach (h : relSt iv av z) {ma : Int32} (h1 : okA ma 0 100000) (h2 : okS (if iv 8 = 0 ∧ iv 7 = 0 then (1 : Int32) else 0)) (svm svc svn : Int32) (zv : Nat → Int32) :
    ∃ A w, m_attach svm z zv ma = (A, (m_keep svm z zv).1, 0, w, (m_keep svm z zv).2) ∧ x_X8_attach svc svn (iv 7) (iv 8) (iv 9) ma = (A, (x_X8_saveN svc svn).1, (x_X8_saveN svc svn).2, ma) ∧ relSt (ivu iv 9 ma) av w ∧ (bnd n z → bnd n w) := by
  obtain ⟨b8, b7⟩ := okS_if.mp h2
  have e9 := h.1.2.2.2.2.2.2.2.2.2.1
  have e8 := h.1.2.2.2.2.2.2.2.2.1
  have e7 := h.1.2.2.2.2.2.2.2.1
  refine ⟨z 6, upd z 6 ma, ?_, ?_, h.num (by omega) h1, fun hb => hb.up fun q hq => upd_o _ _ _ (by omega)⟩
  · unfold m_attach
    simp only [spLet_x, change_e]
    rw [in_1 h1, if_neg (by decide), if_pos (by rw [← e8]; exact b8), if_pos (by rw [← e7]; exact b7)]
  · unfold x_X8_attach x_X8_attach_j38
    simp only [spLet_x, e9]
    rw [if_pos b8, if_pos b7]
theorem q_attach_1 {ma : Int32} (h1 : ¬ okA ma 0 100000) (svm : Int32) (zv : Nat → Int32) : m_attach svm z zv ma = (0, svm, 1, z, zv) := by
  unfold m_attach m_fails
  simp only [spLet_x]
  rw [in_0 h1, if_pos rfl]
theorem q_attach_2 (h : relSt iv av z) {ma : Int32} (h1 : okA ma 0 100000) (h2 : ¬ okS (if iv 8 = 0 ∧ iv 7 = 0 then (1 : Int32) else 0)) (svm : Int32) (zv : Nat → Int32) : m_attach svm z zv ma = (0, svm, 2, z, zv) := by
  have e8 := h.1.2.2.2.2.2.2.2.2.1
  have e7 := h.1.2.2.2.2.2.2.2.1
  unfold m_attach m_attach_j49 m_fails
  simp only [spLet_x]
  rw [in_1 h1, if_neg (by decide)]
  by_cases c : z 4 = 0
  · rw [if_pos c, if_neg (fun k => h2 (okS_if.mpr ⟨by rw [e8]; exact c, by rw [e7]; exact k⟩))]
  · rw [if_neg c]
end CH
