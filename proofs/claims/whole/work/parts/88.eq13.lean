/-! both sides: the calls that change a number or two -/
theorem in_1 {v lo hi : Int32} (h : okA v lo hi) : m_in v lo hi = 1 := by
  obtain ⟨h1, h2⟩ := h
  unfold m_in
  rw [if_neg (fun k => by have := Int32.lt_iff_toInt_lt.mp k; omega), if_neg (fun k => by have := Int32.lt_iff_toInt_lt.mp k; omega)]
theorem in_0 {v lo hi : Int32} (h : ¬ okA v lo hi) : m_in v lo hi = 0 := by
  unfold m_in
  by_cases c : v < lo
  · rw [if_pos c]
  · rw [if_neg c, if_pos (Int32.not_le.mp fun k => h ⟨Int32.le_iff_toInt_le.mp (Int32.not_lt.mp c), Int32.le_iff_toInt_le.mp k⟩)]
theorem okI_A {a n h : Int32} (e : n.toInt = h.toInt + 1) : okI a n ↔ okA a 0 h := by
  unfold okI okA
  rw [l_0]
  omega
theorem okI_4 {a : Int32} : okI a 4 ↔ okA a 0 3 := okI_A (by decide)
theorem okI_6 {a : Int32} : okI a 6 ↔ okA a 0 5 := okI_A (by decide)
theorem place_1 {t r c : Int32} (h : okI t 4 ∧ okI r 4 ∧ okI c 6) : m_isPlace t r c = 1 := by
  unfold m_isPlace
  simp only [spLet_x]
  rw [in_1 (okI_4.mp h.1), in_1 (okI_4.mp h.2.1), in_1 (okI_6.mp h.2.2)]
  rfl
theorem place_0 {t r c : Int32} (h : ¬ (okI t 4 ∧ okI r 4 ∧ okI c 6)) : m_isPlace t r c = 0 := by
  unfold m_isPlace
  simp only [spLet_x]
  by_cases h1 : okI t 4
  · rw [in_1 (okI_4.mp h1), if_neg (by decide)]
    by_cases h2 : okI r 4
    · rw [in_1 (okI_4.mp h2), if_neg (by decide), in_0 (fun k => h ⟨h1, h2, okI_6.mpr k⟩), if_pos rfl]
    · rw [in_0 (fun k => h2 (okI_4.mpr k)), if_pos rfl]
  · rw [in_0 (fun k => h1 (okI_4.mpr k)), if_pos rfl]
theorem posi_1 {l a s : Int32} (h : okA l 1000 6000 ∧ okA a 0 850 ∧ okA s 0 3599) : m_isPosition l a s = 1 := by
  unfold m_isPosition
  simp only [spLet_x]
  rw [in_1 h.1, in_1 h.2.1, in_1 h.2.2]
  rfl
theorem posi_0 {l a s : Int32} (h : ¬ (okA l 1000 6000 ∧ okA a 0 850 ∧ okA s 0 3599)) : m_isPosition l a s = 0 := by
  unfold m_isPosition
  simp only [spLet_x]
  by_cases h1 : okA l 1000 6000
  · rw [in_1 h1, if_neg (by decide)]
    by_cases h2 : okA a 0 850
    · rw [in_1 h2, if_neg (by decide), in_0 (fun k => h ⟨h1, h2, k⟩), if_pos rfl]
    · rw [in_0 h2, if_pos rfl]
  · rw [in_0 h1, if_pos rfl]
def ivu (iv : Nat → Int32) (j : Nat) (v : Int32) : Nat → Int32 := fun k => if k = j then v else iv k
def avu (av : Nat → Nat → Int32) (j : Nat) (f : Nat → Int32) : Nat → Nat → Int32 := fun k => if k = j then f else av k
theorem ivu_s (iv : Nat → Int32) (j : Nat) (v : Int32) : ivu iv j v j = v := if_pos rfl
theorem ivu_o (iv : Nat → Int32) (j : Nat) (v : Int32) {k : Nat} (h : ¬ k = j) : ivu iv j v k = iv k := if_neg h
theorem avu_s (av : Nat → Nat → Int32) (j : Nat) (f : Nat → Int32) : avu av j f j = f := if_pos rfl
theorem avu_o (av : Nat → Nat → Int32) (j : Nat) (f : Nat → Int32) {k : Nat} (h : ¬ k = j) : avu av j f k = av k := if_neg h
theorem relZ.re {cw zc go gc yg cw' zc' : Int32} {cv ce cs zf gt gk gv ys yl z cv' ce' cs' zf' w : Nat → Int32} (h : relZ cw zc go gc yg cv ce cs zf gt gk gv ys yl z) (hc : cTab cw' cv' ce' cs' w) (hz : cZon zc' zf' w) (hg : mG w) (e : ∀ q, (10 < q ∧ q < 14) ∨ (143 ≤ q ∧ q < 246) → w q = z q) : relZ cw' zc' go gc yg cv' ce' cs' zf' gt gk gv ys yl w := by
  obtain ⟨-, -, ⟨o, c, c1, c2, c3, c4, c5, c6⟩, ⟨d1, d2, d3⟩, -, hb⟩ := h
  refine ⟨hc, hz, ⟨o, c, c1, c2, c3, c4, by rw [e 143 (by omega)]; exact c5, fun i hi => ?_⟩, ⟨by rw [e 12 (by omega), e 13 (by omega)]; exact d1, fun k hk => by rw [e _ (by omega)]; exact d2 k hk, fun k hk => by rw [e _ (by omega)]; exact d3 k hk⟩, hg, by rw [e 11 (by omega)]; exact hb⟩
  rw [e _ (by omega), e _ (by omega), e _ (by omega)]
  exact c6 i hi
theorem relZ.G {cw zc go gc yg : Int32} {cv ce cs zf gt gk gv ys yl z : Nat → Int32} (h : relZ cw zc go gc yg cv ce cs zf gt gk gv ys yl z) : mG z := h.2.2.2.2.1
theorem cTab.up {cw : Int32} {cv ce cs z : Nat → Int32} (h : cTab cw cv ce cs z) {w : Nat → Int32} (e : ∀ q, q = 10 ∨ (14 ≤ q ∧ q < 18) ∨ (43 ≤ q ∧ q < 143) → w q = z q) : cTab cw cv ce cs w := by
  obtain ⟨a1, a2, a3, a4⟩ := h
  exact ⟨by rw [e 10 (by omega)]; exact a1, fun k hk => by rw [e _ (by omega)]; exact a2 k hk, fun k hk => by rw [e _ (by omega)]; exact a3 k hk, fun k hk => by rw [e _ (by omega)]; exact a4 k hk⟩
theorem cZon.up {zc : Int32} {zf z : Nat → Int32} (h : cZon zc zf z) {w : Nat → Int32} (e : ∀ q, 18 ≤ q ∧ q < 43 → w q = z q) : cZon zc zf w := by
  obtain ⟨b1, b2⟩ := h
  exact ⟨by rw [e 18 (by omega)]; exact b1, fun k hk => by rw [e _ (by omega)]; exact b2 k hk⟩
/-- a call that writes one of the plain numbers -/
theorem change_e (svm : Int32) (z zv : Nat → Int32) (ce : Nat) (vl : Int32) : m_change svm z zv ce vl = (z ce, (m_keep svm z zv).1, upd z ce vl, (m_keep svm z zv).2) := by
  unfold m_change
  simp only [spLet_x]
theorem mlh_outr : ∀ k, k < 4 → mlo (43 + k) = 0 ∧ mhi (43 + k) = 2 := by decide
section CH
variable {iv : Nat → Int32} {av : Nat → Nat → Int32} {z : Nat → Int32} {n : Nat}
theorem bnd.up (hb : bnd n z) {w : Nat → Int32} (e : ∀ q, 238 ≤ q ∧ q < 246 → w q = z q) : bnd n w := fun k hk => by rw [e _ (by omega)]; exact hb k hk
theorem q_setOutrigger (h : relSt iv av z) {ou ex : Int32} (h1 : okI ou 4) (h2 : okA ex 0 2) (svm svc svn : Int32) (zv : Nat → Int32) :
    ∃ A ce' w, m_setOutrigger svm z zv ou ex = (A, (m_keep svm z zv).1, 0, w, (m_keep svm z zv).2) ∧ x_X8_setOutrigger svc svn (av 1) ou ex = (A, (x_X8_saveN svc svn).1, (x_X8_saveN svc svn).2, ce') ∧ relSt iv (avu av 1 ce') w ∧ (bnd n z → bnd n w) := by
  obtain ⟨hn, hr⟩ := h
  have hG := hr.G
  obtain ⟨o1, o2⟩ := okI_n h1
  have o4 : ou.toNatClampNeg < 4 := o2
  have eo := nI_toInt (n := ou.toNatClampNeg) (by omega)
  rw [← o1] at eo
  have hc := hr.1
  have hv : av 1 ou.toNatClampNeg = z (43 + ou.toNatClampNeg) := hc.2.2.1 _ o4
  refine ⟨z (43 + ou.toNatClampNeg), upd (av 1) ou.toNatClampNeg ex, upd z (43 + ou.toNatClampNeg) ex, ?_, ?_, ⟨?_, ?_⟩, fun hb => hb.up fun q hq => upd_o _ _ _ (by omega)⟩
  · unfold m_setOutrigger
    simp only [spLet_x, change_e]
    rw [in_1 (okI_4.mp h1), in_1 h2]
    rfl
  · unfold x_X8_setOutrigger x_X1_extendOutrigger
    simp only [spLet_x]
    rw [if_neg (fun k => by have := (lt_i l_0).mp k; omega), if_pos ((lt_i l_4).mpr (by omega)), hv]
  · obtain ⟨a0, a1, a2, a3, a4, a5, a6, a7, a8, a9, a10⟩ := hn
    refine ⟨?_, ?_, ?_, ?_, ?_, ?_, ?_, ?_, ?_, ?_, ?_⟩ <;> (rw [upd_o _ _ _ (by omega)]; assumption)
  · refine hr.re ⟨by rw [upd_o _ _ _ (by omega)]; exact hc.1, fun k hk => by rw [upd_o _ _ _ (by omega)]; exact hc.2.1 k hk, fun k hk => ?_, fun k hk => by rw [upd_o _ _ _ (by omega)]; exact hc.2.2.2 k hk⟩ (hr.2.1.up fun q hq => upd_o _ _ _ (by omega)) (mG.upd hG fun _ => ?_) fun q hq => upd_o _ _ _ (by omega)
    · show upd (av 1) ou.toNatClampNeg ex k = _
      by_cases e : k = ou.toNatClampNeg
      · rw [e, upd_s, upd_s]
      · rw [upd_o _ _ _ e, upd_o _ _ _ (by omega), hc.2.2.1 k hk]
    · obtain ⟨m1, m2⟩ := mlh_outr _ o4
      rw [m1, m2]
      exact h2
theorem q_setOutrigger_1 {ou ex : Int32} (h1 : ¬ okI ou 4) (svm : Int32) (zv : Nat → Int32) : m_setOutrigger svm z zv ou ex = (0, svm, 1, z, zv) := by
  unfold m_setOutrigger m_fails
  simp only [spLet_x]
  rw [in_0 (fun k => h1 (okI_4.mpr k)), if_pos rfl]
theorem q_setOutrigger_2 {ou ex : Int32} (h1 : okI ou 4) (h2 : ¬ okA ex 0 2) (svm : Int32) (zv : Nat → Int32) : m_setOutrigger svm z zv ou ex = (0, svm, 2, z, zv) := by
  unfold m_setOutrigger m_fails
  simp only [spLet_x]
  rw [in_1 (okI_4.mp h1), in_0 h2, if_neg (by decide), if_pos rfl]
theorem q_setOnWheels (h : relSt iv av z) {wh : Int32} (h1 : wh = 0 ∨ wh = 1) (svm svc svn : Int32) (zv : Nat → Int32) :
    ∃ A w, m_setOnWheels svm z zv wh = (A, (m_keep svm z zv).1, 0, w, (m_keep svm z zv).2) ∧ x_X8_setOnWheels svc svn (iv 11) wh = (A, (x_X8_saveN svc svn).1, (x_X8_saveN svc svn).2, wh) ∧ relSt (ivu iv 11 wh) av w ∧ (bnd n z → bnd n w) := by
  obtain ⟨hn, hr⟩ := h
  have hG := hr.G
  have hc := hr.1
  have b := hG.c10
  have hw : iv 11 = z 10 := hc.1
  refine ⟨z 10, upd z 10 wh, ?_, ?_, ⟨?_, ?_⟩, fun hb => hb.up fun q hq => upd_o _ _ _ (by omega)⟩
  · have e : (if wh = 0 then (0 : Int32) else 1) = wh := by rcases h1 with k | k <;> rw [k] <;> rfl
    have ez : z 10 = 0 ∨ z 10 = 1 := by
      by_cases c : (z 10).toInt = 0
      · exact Or.inl (Int32.toInt_inj.mp (by rw [c, l_0]))
      · exact Or.inr (Int32.toInt_inj.mp (by rw [l_1]; omega))
    have ej : m_setOnWheels svm z zv wh = m_setOnWheels_j17 svm z zv wh := by
      unfold m_setOnWheels
      rcases h1 with k | k <;> rw [k] <;> rfl
    rw [ej]
    unfold m_setOnWheels_j17
    simp only [spLet_x, change_e]
    rcases ez with k | k
    · rw [k, if_neg (by decide)]
    · rw [k, if_pos rfl]
  · unfold x_X8_setOnWheels
    simp only [spLet_x, hw]
  · obtain ⟨a0, a1, a2, a3, a4, a5, a6, a7, a8, a9, a10⟩ := hn
    refine ⟨?_, ?_, ?_, ?_, ?_, ?_, ?_, ?_, ?_, ?_, ?_⟩ <;> (rw [ivu_o _ _ _ (by omega), upd_o _ _ _ (by omega)]; assumption)
  · refine hr.re (cw' := ivu iv 11 wh 11) (zc' := ivu iv 11 wh 12) ⟨by rw [ivu_s, upd_s], fun k hk => by rw [upd_o _ _ _ (by omega)]; exact hc.2.1 k hk, fun k hk => by rw [upd_o _ _ _ (by omega)]; exact hc.2.2.1 k hk, fun k hk => by rw [upd_o _ _ _ (by omega)]; exact hc.2.2.2 k hk⟩ (hr.2.1.up fun q hq => upd_o _ _ _ (by omega)) (mG.upd hG fun _ => ?_) fun q hq => upd_o _ _ _ (by omega)
    rcases h1 with k | k <;> rw [k] <;> exact ⟨by decide, by decide⟩
end CH
