/-! both sides: the calls that change a number or two -/
theorem in_1 {v lo hi : Int32} (h : okA v lo hi) : m_in v lo hi = 1 := by
  obtain ⟨h1, h2⟩ := h
  unfold m_in
  rw [if_neg (fun k => by have := Int32.lt_iff_toInt_lt.mp k; omega), if_neg (fun k => by have := Int32.lt_iff_toInt_lt.mp k; omega)]
theorem in_0 {v lo hi : Int32} (h : ¬ okA v lo hi) : m_in v lo hi = 0 := by
  unfold m_in
  by_cases c : v < lo
  · rw [if_pos c]
  · rw [if_neg c, if_pos (Int32.not_le.mp fun k => h ⟨Int32.le_iff_toInt_le.mp (Int32.not_lt.mp c), Int32.le_iff_toInt_le.mp k⟩)]
theorem okI_A {a n h : Int32} (e : n.toInt = h.toInt + 1) : okI a n ↔ okA a 0 h := by
  unfold okI okA
  rw [l_0]
  omega
theorem okI_4 {a : Int32} : okI a 4 ↔ okA a 0 3 := okI_A (by decide)
theorem okI_6 {a : Int32} : okI a 6 ↔ okA a 0 5 := okI_A (by decide)
theorem place_1 {t r c : Int32} (h : okI t 4 ∧ okI r 4 ∧ okI c 6) : m_isPlace t r c = 1 := by
  unfold m_isPlace
  simp only [spLet_x]
  rw [in_1 (okI_4.mp h.1), in_1 (okI_4.mp h.2.1), in_1 (okI_6.mp h.2.2)]
  rfl
theorem place_0 {t r c : Int32} (h : ¬ (okI t 4 ∧ okI r 4 ∧ okI c 6)) : m_isPlace t r c = 0 := by
  unfold m_isPlace
  simp only [spLet_x]
  by_cases h1 : okI t 4
  · rw [in_1 (okI_4.mp h1), if_neg (by decide)]
    by_cases h2 : okI r 4
    · rw [in_1 (okI_4.mp h2), if_neg (by decide), in_0 (fun k => h ⟨h1, h2, okI_6.mpr k⟩), if_pos rfl]
    · rw [in_0 (fun k => h2 (okI_4.mpr k)), if_pos rfl]
  · rw [in_0 (fun k => h1 (okI_4.mpr k)), if_pos rfl]
theorem posi_1 {l a s : Int32} (h : okA l 1000 6000 ∧ okA a 0 850 ∧ okA s 0 3599) : m_isPosition l a s = 1 := by
  unfold m_isPosition
  simp only [spLet_x]
  rw [in_1 h.1, in_1 h.2.1, in_1 h.2.2]
  rfl
theorem posi_0 {l a s : Int32} (h : ¬ (okA l 1000 6000 ∧ okA a 0 850 ∧ okA s 0 3599)) : m_isPosition l a s = 0 := by
  unfold m_isPosition
  simp only [spLet_x]
  by_cases h1 : okA l 1000 6000
  · rw [in_1 h1, if_neg (by decide)]
    by_cases h2 : okA a 0 850
    · rw [in_1 h2, if_neg (by decide), in_0 (fun k => h ⟨h1, h2, k⟩), if_pos rfl]
    · rw [in_0 h2, if_pos rfl]
  · rw [in_0 h1, if_pos rfl]
def ivu (iv : Nat → Int32) (j : Nat) (v : Int32) : Nat → Int32 := fun k => if k = j then v else iv k
def avu (av : Nat → Nat → Int32) (j : Nat) (f : Nat → Int32) : Nat → Nat → Int32 := fun k => if k = j then f else av k
theorem ivu_s (iv : Nat → Int32) (j : Nat) (v : Int32) : ivu iv j v j = v := if_pos rfl
theorem ivu_o (iv : Nat → Int32) (j : Nat) (v : Int32) {k : Nat} (h : ¬ k = j) : ivu iv j v k = iv k := if_neg h
theorem avu_s (av : Nat → Nat → Int32) (j : Nat) (f : Nat → Int32) : avu av j f j = f := if_pos rfl
theorem avu_o (av : Nat → Nat → Int32) (j : Nat) (f : Nat → Int32) {k : Nat} (h : ¬ k = j) : avu av j f k = av k := if_neg h
theorem relZ.re {cw zc go gc yg cw' zc' : Int32} {cv ce cs zf gt gk gv ys yl z cv' ce' cs' zf' w : Nat → Int32} (h : relZ cw zc go gc yg cv ce cs zf gt gk gv ys yl z) (hc : cTab cw' cv' ce' cs' w) (hz : cZon zc' zf' w) (hg : mG w) (e : ∀ q, (10 < q ∧ q < 14) ∨ (143 ≤ q ∧ q < 246) → w q = z q) : relZ cw' zc' go gc yg cv' ce' cs' zf' gt gk gv ys yl w := by
  obtain ⟨-, -, ⟨o, c, c1, c2, c3, c4, c5, c6⟩, ⟨d1, d2, d3⟩, -, hb⟩ := h
  refine ⟨hc, hz, ⟨o, c, c1, c2, c3, c4, by rw [e 143 (by omega)]; exact c5, fun i hi => ?_⟩, ⟨by rw [e 12 (by omega), e 13 (by omega)]; exact d1, fun k hk => by rw [e _ (by omega)]; exact d2 k hk, fun k hk => by rw [e _ (by omega)]; exact d3 k hk⟩, hg, by rw [e 11 (by omega)]; exact hb⟩
  rw [e _ (by omega), e _ (by omega), e _ (by omega)]
  exact c6 i hi
theorem relZ.G {cw zc go gc yg : Int32} {cv ce cs zf gt gk gv ys yl z : Nat → Int32} (h : relZ cw zc go gc yg cv ce cs zf gt gk gv ys yl z) : mG z := h.2.2.2.2.1
theorem cTab.up {cw : Int32} {cv ce cs z : Nat → Int32} (h : cTab cw cv ce cs z) {w : Nat → Int32} (e : ∀ q, q = 10 ∨ (14 ≤ q ∧ q < 18) ∨ (43 ≤ q ∧ q < 143) → w q = z q) : cTab cw cv ce cs w := by
  obtain ⟨a1, a2, a3, a4⟩ := h
  exact ⟨by rw [e 10 (by omega)]; exact a1, fun k hk => by rw [e _ (by omega)]; exact a2 k hk, fun k hk => by rw [e _ (by omega)]; exact a3 k hk, fun k hk => by rw [e _ (by omega)]; exact a4 k hk⟩
theorem cZon.up {zc : Int32} {zf z : Nat → Int32} (h : cZon zc zf z) {w : Nat → Int32} (e : ∀ q, 18 ≤ q ∧ q < 43 → w q = z q) : cZon zc zf w := by
  obtain ⟨b1, b2⟩ := h
  exact ⟨by rw [e 18 (by omega)]; exact b1, fun k hk => by rw [e _ (by omega)]; exact b2 k hk⟩
/-- a call that writes one of the plain numbers -/
theorem change_e (svm : Int32) (z zv : Nat → Int32) (ce : Nat) (vl : Int32) : m_change svm z zv ce vl = (z ce, (m_keep svm z zv).1, upd z ce vl, (m_keep svm z zv).2) := by
  unfold m_change
  simp only [spLet_x]
theorem mlh_outr : ∀ k, k < 4 → mlo (43 + k) = 0 ∧ mhi (43 + k) = 2 := by decide
section CH
variable {iv : Nat → Int32} {av : Nat → Nat → Int32} {z : Nat → Int32} {n : Nat}
theorem bnd.up (hb : bnd n z) {w : Nat → Int32} (e : ∀ q, 238 ≤ q ∧ q < 246 → w q = z q) : bnd n w := fun k hk => by rw [e _ (by omega)]; exact hb k hk
theorem q_setOutrigger (h : relSt iv av z) {ou ex : Int32} (h1 : okI ou 4) (h2 : okA ex 0 2) (svm svc svn : Int32) (zv : Nat → Int32) :
    ∃ A ce' w, m_setOutrigger svm z zv ou ex = (A, (m_keep svm z zv).1, 0, w, (m_keep svm z zv).2) ∧ x_X8_setOutrigger svc svn (av 1) ou ex = (A, (x_X8_saveN svc svn).1, (x_X8_saveN svc svn).2, ce') ∧ relSt iv (avu av 1 ce') w ∧ (bnd n z → bnd n w) := by
  obtain ⟨hn, hr⟩ := h
  have hG := hr.G
  obtain ⟨o1, o2⟩ := okI_n h1
  have o4 : ou.toNatClampNeg < 4 := o2
  have eo := nI_toInt (n := ou.toNatClampNeg) (by omega)
  rw [← o1] at eo
  have hc := hr.1
  have hv : av 1 ou.toNatClampNeg = z (43 + ou.toNatClampNeg) := hc.2.2.1 _ o4
  refine ⟨z (43 + ou.toNatClampNeg), upd (av 1) ou.toNatClampNeg ex, upd z (43 + ou.toNatClampNeg) ex, ?_, ?_, ⟨?_, ?_⟩, fun hb => hb.up fun q hq => upd_o _ _ _ (by omega)⟩
  · unfold m_setOutrigger
    simp only [spLet_x, change_e]
    rw [in_1 (okI_4.mp h1), in_1 h2]
    rfl
  · unfold x_X8_setOutrigger x_X1_extendOutrigger
    simp only [spLet_x]
    rw [if_neg (fun k => by have := (lt_i l_0).mp k; omega), if_pos ((lt_i l_4).mpr (by omega)), hv]
  · obtain ⟨a0, a1, a2, a3, a4, a5, a6, a7, a8, a9, a10⟩ := hn
    refine ⟨?_, ?_, ?_, ?_, ?_, ?_, ?_, ?_, ?_, ?_, ?_⟩ <;> (rw [upd_o _ _ _ (by omega)]; assumption)
  · refine hr.re ⟨by rw [upd_o _ _ _ (by omega)]; exact hc.1, fun k hk => by rw [upd_o _ _ _ (by omega)]; exact hc.2.1 k hk, fun k hk => ?_, fun k hk => by rw [upd_o _ _ _ (by omega)]; exact hc.2.2.2 k hk⟩ (hr.2.1.up fun q hq => upd_o _ _ _ (by omega)) (mG.upd hG fun _ => ?_) fun q hq => upd_o _ _ _ (by omega)
    · show upd (av 1) ou.toNatClampNeg ex k = _
      by_cases e : k = ou.toNatClampNeg
      · rw [e, upd_s, upd_s]
      · rw [upd_o _ _ _ e, upd_o _ _ _ (by omega), hc.2.2.1 k hk]
    · obtain ⟨m1, m2⟩ := mlh_outr _ o4
      rw [m1, m2]
      exact h2
theorem q_setOutrigger_1 {ou ex : Int32} (h1 : ¬ okI ou 4) (svm : Int32) (zv : Nat → Int32) : m_setOutrigger svm z zv ou ex = (0, svm, 1, z, zv) := by
  unfold m_setOutrigger m_fails
  simp only [spLet_x]
  rw [in_0 (fun k => h1 (okI_4.mpr k)), if_pos rfl]
theorem q_setOutrigger_2 {ou ex : Int32} (h1 : okI ou 4) (h2 : ¬ okA ex 0 2) (svm : Int32) (zv : Nat → Int32) : m_setOutrigger svm z zv ou ex = (0, svm, 2, z, zv) := by
  unfold m_setOutrigger m_fails
  simp only [spLet_x]
  rw [in_1 (okI_4.mp h1), in_0 h2, if_neg (by decide), if_pos rfl]
theorem q_setOnWheels (h : relSt iv av z) {wh : Int32} (h1 : wh = 0 ∨ wh = 1) (svm svc svn : Int32) (zv : Nat → Int32) :
    ∃ A w, m_setOnWheels svm z zv wh = (A, (m_keep svm z zv).1, 0, w, (m_keep svm z zv).2) ∧ x_X8_setOnWheels svc svn (iv 11) wh = (A, (x_X8_saveN svc svn).1, (x_X8_saveN svc svn).2, wh) ∧ relSt (ivu iv 11 wh) av w ∧ (bnd n z → bnd n w) := by
  obtain ⟨hn, hr⟩ := h
  have hG := hr.G
  have hc := hr.1
  have b := hG.c10
  have hw : iv 11 = z 10 := hc.1
  refine ⟨z 10, upd z 10 wh, ?_, ?_, ⟨?_, ?_⟩, fun hb => hb.up fun q hq => upd_o _ _ _ (by omega)⟩
  · have e : (if wh = 0 then (0 : Int32) else 1) = wh := by rcases h1 with k | k <;> rw [k] <;> rfl
    have ez : z 10 = 0 ∨ z 10 = 1 := by
      by_cases c : (z 10).toInt = 0
      · exact Or.inl (Int32.toInt_inj.mp (by rw [c, l_0]))
      · exact Or.inr (Int32.toInt_inj.mp (by rw [l_1]; omega))
    have ej : m_setOnWheels svm z zv wh = m_setOnWheels_j17 svm z zv wh := by
      unfold m_setOnWheels
      rcases h1 with k | k <;> rw [k] <;> rfl
    rw [ej]
    unfold m_setOnWheels_j17
    simp only [spLet_x, change_e]
    rcases ez with k | k
    · rw [k, if_neg (by decide)]
    · rw [k, if_pos rfl]
  · unfold x_X8_setOnWheels
    simp only [spLet_x, hw]
  · obtain ⟨a0, a1, a2, a3, a4, a5, a6, a7, a8, a9, a10⟩ := hn
    refine ⟨?_, ?_, ?_, ?_, ?_, ?_, ?_, ?_, ?_, ?_, ?_⟩ <;> (rw [ivu_o _ _ _ (by omega), upd_o _ _ _ (by omega)]; assumption)
  · refine hr.re (cw' := ivu iv 11 wh 11) (zc' := ivu iv 11 wh 12) ⟨by rw [ivu_s, upd_s], fun k hk => by rw [upd_o _ _ _ (by omega)]; exact hc.2.1 k hk, fun k hk => by rw [upd_o _ _ _ (by omega)]; exact hc.2.2.1 k hk, fun k hk => by rw [upd_o _ _ _ (by omega)]; exact hc.2.2.2 k hk⟩ (hr.2.1.up fun q hq => upd_o _ _ _ (by omega)) (mG.upd hG fun _ => ?_) fun q hq => upd_o _ _ _ (by omega)
    rcases h1 with k | k <;> rw [k] <;> exact ⟨by decide, by decide⟩
end CH

/-! both sides: further calls that change the state -/
section CH
variable {iv : Nat → Int32} {av : Nat → Nat → Int32} {z : Nat → Int32} {n : Nat}
theorem put_val {cv : Nat → Int32} {t i j : Nat} (ht : t < 4) (hi : i < 4) (hj : j < 6) (v : Int32) : x_X1_putValue cv (nI t) (nI i) (nI j) v = upd cv (24 * t + 6 * i + j) v := by
  have e : (nI t * (24 : Int32)) + (nI i * (6 : Int32)) + nI j = nI (24 * t + 6 * i + j) := by
    rw [show (24 : Int32) = nI 24 from rfl, show (6 : Int32) = nI 6 from rfl, Nat.mul_comm 24, Nat.mul_comm 6]
    exact nadd (nadd (nmul rfl rfl) (nmul rfl rfl)) rfl
  have e2 := nI_toInt (n := 24 * t + 6 * i + j) (by omega)
  have z2 : ((96 : Int32)).toInt = 96 := by decide
  unfold x_X1_putValue
  simp only [spLet_x, e]
  rw [if_neg (fun k => by have := (lt_i l_0).mp k; omega), if_neg (fun k => by have := (i_le z2).mp k; omega), nI_clamp (by omega)]
theorem q_setCapacity (h : relSt iv av z) {ta ro co ma : Int32} (h1 : okI ta 4 ∧ okI ro 4 ∧ okI co 6) (h2 : okA ma 0 100000) (svm svc svn : Int32) (zv : Nat → Int32) :
    ∃ A cv' w, m_setCapacity svm z zv ta ro co ma = (A, (m_keep svm z zv).1, 0, w, (m_keep svm z zv).2) ∧ x_X8_setCapacity svc svn (av 0) ta ro co ma = (A, (x_X8_saveN svc svn).1, (x_X8_saveN svc svn).2, cv') ∧ relSt iv (avu av 0 cv') w ∧ (bnd n z → bnd n w) := by
  obtain ⟨hn, hr⟩ := h
  have hG := hr.G
  have hc := hr.1
  obtain ⟨t1, t2⟩ := okI_n h1.1
  obtain ⟨r1, r2⟩ := okI_n h1.2.1
  obtain ⟨c1, c2⟩ := okI_n h1.2.2
  have t4 : ta.toNatClampNeg < 4 := t2
  have r4 : ro.toNatClampNeg < 4 := r2
  have c6 : co.toNatClampNeg < 6 := c2
  have hv := x_val (cv := av 0) hc.2.1 (t := ta.toNatClampNeg) (i := ro.toNatClampNeg) (j := co.toNatClampNeg) t4 r4 c6
  have hp := put_val (cv := av 0) (t := ta.toNatClampNeg) (i := ro.toNatClampNeg) (j := co.toNatClampNeg) t4 r4 c6 ma
  rw [← t1, ← r1, ← c1] at hv hp
  refine ⟨z (47 + 24 * ta.toNatClampNeg + 6 * ro.toNatClampNeg + co.toNatClampNeg), upd (av 0) (24 * ta.toNatClampNeg + 6 * ro.toNatClampNeg + co.toNatClampNeg) ma, upd z (47 + 24 * ta.toNatClampNeg + 6 * ro.toNatClampNeg + co.toNatClampNeg) ma, ?_, ?_, ⟨?_, ?_⟩, ?_⟩
  · unfold m_setCapacity
    simp only [spLet_x, change_e]
    rw [place_1 h1, in_1 h2]
    rfl
  · unfold x_X8_setCapacity
    simp only [spLet_x, hv, hp]
  · obtain ⟨a0, a1, a2, a3, a4, a5, a6, a7, a8, a9, a10⟩ := hn
    refine ⟨?_, ?_, ?_, ?_, ?_, ?_, ?_, ?_, ?_, ?_, ?_⟩ <;> (rw [upd_o _ _ _ (by omega)]; assumption)
  · refine hr.re ⟨by rw [upd_o _ _ _ (by omega)]; exact hc.1, fun k hk => ?_, fun k hk => by rw [upd_o _ _ _ (by omega)]; exact hc.2.2.1 k hk, fun k hk => by rw [upd_o _ _ _ (by omega)]; exact hc.2.2.2 k hk⟩ (hr.2.1.up fun q hq => upd_o _ _ _ (by omega)) (mG.upd hG fun _ => ?_) fun q hq => upd_o _ _ _ (by omega)
    · show upd (av 0) (24 * ta.toNatClampNeg + 6 * ro.toNatClampNeg + co.toNatClampNeg) ma k = _
      by_cases e : k = 24 * ta.toNatClampNeg + 6 * ro.toNatClampNeg + co.toNatClampNeg
      · rw [e, upd_s, show 47 + (24 * ta.toNatClampNeg + 6 * ro.toNatClampNeg + co.toNatClampNeg) = 47 + 24 * ta.toNatClampNeg + 6 * ro.toNatClampNeg + co.toNatClampNeg by omega, upd_s]
      · rw [upd_o _ _ _ e, upd_o _ _ _ (by omega), hc.2.1 k hk]
    · obtain ⟨m1, m2⟩ := mlh_tab (47 + 24 * ta.toNatClampNeg + 6 * ro.toNatClampNeg + co.toNatClampNeg) (by omega) (by omega)
      rw [m1, m2]
      exact h2
  · exact fun hb => hb.up fun q hq => upd_o _ _ _ (by omega)
theorem q_setCapacity_1 {ta ro co ma : Int32} (h1 : ¬ (okI ta 4 ∧ okI ro 4 ∧ okI co 6)) (svm : Int32) (zv : Nat → Int32) : m_setCapacity svm z zv ta ro co ma = (0, svm, 1, z, zv) := by
  unfold m_setCapacity m_fails
  simp only [spLet_x]
  rw [place_0 h1, if_pos rfl]
theorem q_setCapacity_2 {ta ro co ma : Int32} (h1 : okI ta 4 ∧ okI ro 4 ∧ okI co 6) (h2 : ¬ okA ma 0 100000) (svm : Int32) (zv : Nat → Int32) : m_setCapacity svm z zv ta ro co ma = (0, svm, 2, z, zv) := by
  unfold m_setCapacity m_fails
  simp only [spLet_x]
  rw [place_1 h1, in_0 h2, if_neg (by decide), if_pos rfl]
/-- a plain number: iv's place i is cell c -/
theorem relSt.num (h : relSt iv av z) {i c : Nat} {v : Int32} (hic : (i = 2 ∧ c = 9) ∨ (i = 9 ∧ c = 6) ∨ (i = 10 ∧ c = 5)) (hv : mlo c ≤ v.toInt ∧ v.toInt ≤ mhi c) : relSt (ivu iv i v) av (upd z c v) := by
  obtain ⟨hn, hr⟩ := h
  have hG := hr.G
  refine ⟨?_, ?_⟩
  · obtain ⟨a0, a1, a2, a3, a4, a5, a6, a7, a8, a9, a10⟩ := hn
    rcases hic with ⟨rfl, rfl⟩ | ⟨rfl, rfl⟩ | ⟨rfl, rfl⟩
    · exact ⟨a0, a1, rfl, a3, a4, a5, a6, a7, a8, a9, a10⟩
    · exact ⟨a0, a1, a2, a3, a4, a5, a6, a7, a8, rfl, a10⟩
    · exact ⟨a0, a1, a2, a3, a4, a5, a6, a7, a8, a9, rfl⟩
  · rw [ivu_o _ _ _ (by omega), ivu_o _ _ _ (by omega), ivu_o _ _ _ (by omega), ivu_o _ _ _ (by omega), ivu_o _ _ _ (by omega)]
    exact hr.re (hr.1.up fun q hq => upd_o _ _ _ (by omega)) (hr.2.1.up fun q hq => upd_o _ _ _ (by omega)) (mG.upd hG fun _ => hv) fun q hq => upd_o _ _ _ (by omega)
theorem q_setTare (h : relSt iv av z) {ma : Int32} (h1 : okA ma 0 2000) (svm svc svn : Int32) (zv : Nat → Int32) :
    ∃ A w, m_setTare svm z zv ma = (A, (m_keep svm z zv).1, 0, w, (m_keep svm z zv).2) ∧ x_X8_setTare svc svn (iv 10) ma = (A, (x_X8_saveN svc svn).1, (x_X8_saveN svc svn).2, ma) ∧ relSt (ivu iv 10 ma) av w ∧ (bnd n z → bnd n w) := by
  have e := h.1.2.2.2.2.2.2.2.2.2.2
  refine ⟨z 5, upd z 5 ma, ?_, ?_, h.num (by omega) h1, fun hb => hb.up fun q hq => upd_o _ _ _ (by omega)⟩
  · unfold m_setTare
    simp only [spLet_x, change_e]
    rw [in_1 h1]
    rfl
  · unfold x_X8_setTare
    simp only [spLet_x, e]
theorem q_setTare_1 {ma : Int32} (h1 : ¬ okA ma 0 2000) (svm : Int32) (zv : Nat → Int32) : m_setTare svm z zv ma = (0, svm, 1, z, zv) := by
  unfold m_setTare m_fails
  simp only [spLet_x]
  rw [in_0 h1, if_pos rfl]
theorem q_bypass (h : relSt iv av z) {tk : Int32} (h1 : okA tk 0 1000) (svm svc svn : Int32) (zv : Nat → Int32) :
    ∃ A w, m_bypass svm z zv tk = (A, (m_keep svm z zv).1, 0, w, (m_keep svm z zv).2) ∧ x_X8_bypass svc svn (iv 2) tk = (A, (x_X8_saveN svc svn).1, (x_X8_saveN svc svn).2, tk) ∧ relSt (ivu iv 2 tk) av w ∧ (bnd n z → bnd n w) := by
  have e := h.1.2.2.1
  refine ⟨z 9, upd z 9 tk, ?_, ?_, h.num (by omega) h1, fun hb => hb.up fun q hq => upd_o _ _ _ (by omega)⟩
  · unfold m_bypass
    simp only [spLet_x, change_e]
    rw [in_1 h1]
    rfl
  · unfold x_X8_bypass
    simp only [spLet_x, e]
theorem q_bypass_1 {tk : Int32} (h1 : ¬ okA tk 0 1000) (svm : Int32) (zv : Nat → Int32) : m_bypass svm z zv tk = (0, svm, 1, z, zv) := by
  unfold m_bypass m_fails
  simp only [spLet_x]
  rw [in_0 h1, if_pos rfl]
theorem okS_if {p : Prop} [Decidable p] : okS (if p then (1 : Int32) else 0) ↔ p := by
  unfold okS
  by_cases c : p
  · rw [if_pos c]; exact ⟨fun _ => c, fun _ => by decide⟩
  · rw [if_neg c]; exact ⟨fun k => absurd rfl k, fun k => absurd k c⟩
theorem okS_if' {p : Prop} [Decidable p] : okS (if p then (0 : Int32) else 1) ↔ ¬ p := by
  unfold okS
  by_cases c : p
  · rw [if_pos c]; exact ⟨fun k => absurd rfl k, fun k => absurd c k⟩
  · rw [if_neg c]; exact ⟨fun _ => c, fun _ => by decide⟩
theorem q_attach (h : relSt iv av z) {ma : Int32} (h1 : okA ma 0 100000) (h2 : okS (if iv 8 = 0 ∧ iv 7 = 0 then (1 : Int32) else 0)) (svm svc svn : Int32) (zv : Nat → Int32) :
    ∃ A w, m_attach svm z zv ma = (A, (m_keep svm z zv).1, 0, w, (m_keep svm z zv).2) ∧ x_X8_attach svc svn (iv 7) (iv 8) (iv 9) ma = (A, (x_X8_saveN svc svn).1, (x_X8_saveN svc svn).2, ma) ∧ relSt (ivu iv 9 ma) av w ∧ (bnd n z → bnd n w) := by
  obtain ⟨b8, b7⟩ := okS_if.mp h2
  have e9 := h.1.2.2.2.2.2.2.2.2.2.1
  have e8 := h.1.2.2.2.2.2.2.2.2.1
  have e7 := h.1.2.2.2.2.2.2.2.1
  refine ⟨z 6, upd z 6 ma, ?_, ?_, h.num (by omega) h1, fun hb => hb.up fun q hq => upd_o _ _ _ (by omega)⟩
  · unfold m_attach
    simp only [spLet_x, change_e]
    rw [in_1 h1, if_neg (by decide), if_pos (by rw [← e8]; exact b8), if_pos (by rw [← e7]; exact b7)]
  · unfold x_X8_attach x_X8_attach_j38
    simp only [spLet_x, e9]
    rw [if_pos b8, if_pos b7]
theorem q_attach_1 {ma : Int32} (h1 : ¬ okA ma 0 100000) (svm : Int32) (zv : Nat → Int32) : m_attach svm z zv ma = (0, svm, 1, z, zv) := by
  unfold m_attach m_fails
  simp only [spLet_x]
  rw [in_0 h1, if_pos rfl]
theorem q_attach_2 (h : relSt iv av z) {ma : Int32} (h1 : okA ma 0 100000) (h2 : ¬ okS (if iv 8 = 0 ∧ iv 7 = 0 then (1 : Int32) else 0)) (svm : Int32) (zv : Nat → Int32) : m_attach svm z zv ma = (0, svm, 2, z, zv) := by
  have e8 := h.1.2.2.2.2.2.2.2.2.1
  have e7 := h.1.2.2.2.2.2.2.2.1
  unfold m_attach m_attach_j49 m_fails
  simp only [spLet_x]
  rw [in_1 h1, if_neg (by decide)]
  by_cases c : z 4 = 0
  · rw [if_pos c, if_neg (fun k => h2 (okS_if.mpr ⟨by rw [e8]; exact c, by rw [e7]; exact k⟩))]
  · rw [if_neg c]
end CH

/-! both sides: further calls that change the state -/
section CH
variable {iv : Nat → Int32} {av : Nat → Nat → Int32} {z : Nat → Int32} {n : Nat}
theorem q_setBoom (h : relSt iv av z) {nl na ns : Int32} (h1 : okA nl 1000 6000 ∧ okA na 0 850 ∧ okA ns 0 3599) (h2 : okS (if iv 8 = 0 then (1 : Int32) else 0)) (svm svc svn : Int32) (zv : Nat → Int32) :
    ∃ A w, m_setBoom svm z zv nl na ns = (A, (m_keep svm z zv).1, 0, w, (m_keep svm z zv).2) ∧ x_X8_setBoom svc svn (iv 8) (iv 12) (av 3) nl na ns = (A, (x_X8_saveN svc svn).1, (x_X8_saveN svc svn).2, nl, na, ns, 0) ∧ relSt (ivu (ivu (ivu (ivu iv 4 nl) 5 na) 6 ns) 7 0) av w ∧ (bnd n z → bnd n w) := by
  obtain ⟨hn, hr⟩ := h
  have hG := hr.G
  have b8 := okS_if.mp h2
  have e8 := hn.2.2.2.2.2.2.2.2.1
  have o : ∀ q, 3 < q → upd (upd (upd (upd z 0 nl) 1 na) 2 ns) 3 0 q = z q := fun q hq => by rw [upd_o _ _ _ (by omega), upd_o _ _ _ (by omega), upd_o _ _ _ (by omega), upd_o _ _ _ (by omega)]
  have b0 : mlo 0 ≤ nl.toInt ∧ nl.toInt ≤ mhi 0 := h1.1
  have b1 : mlo 1 ≤ na.toInt ∧ na.toInt ≤ mhi 1 := h1.2.1
  have b2 : mlo 2 ≤ ns.toInt ∧ ns.toInt ≤ mhi 2 := h1.2.2
  have b3 : mlo 3 ≤ ((0 : Int32)).toInt ∧ ((0 : Int32)).toInt ≤ mhi 3 := by decide
  have G : mG (upd (upd (upd (upd z 0 nl) 1 na) 2 ns) 3 0) := mG.upd (mG.upd (mG.upd (mG.upd hG fun _ => b0) fun _ => b1) fun _ => b2) fun _ => b3
  have hz : cZon (iv 12) (av 3) (upd (upd (upd (upd z 0 nl) 1 na) 2 ns) 3 0) := hr.2.1.up fun q hq => o q (by omega)
  have ev := q_violation (zf := av 3) (zs := upd (upd (upd (upd z 0 nl) 1 na) 2 ns) 3 0) hz.2 G
  rw [← hz.1] at ev
  refine ⟨m_violation (upd (upd (upd (upd z 0 nl) 1 na) 2 ns) 3 0), upd (upd (upd (upd z 0 nl) 1 na) 2 ns) 3 0, ?_, ?_, ⟨?_, ?_⟩, fun hb => hb.up fun q hq => o q (by omega)⟩
  · unfold m_setBoom
    simp only [spLet_x]
    rw [posi_1 h1, if_neg (by decide), if_pos (by rw [← e8]; exact b8)]
  · unfold x_X8_setBoom x_X8_setBoom_j24 x_X0_place
    simp only [spLet_x]
    rw [if_pos b8]
    exact congrArg (fun t => (t, (x_X8_saveN svc svn).1, (x_X8_saveN svc svn).2, nl, na, ns, (0 : Int32))) ev
  · obtain ⟨a0, a1, a2, a3, a4, a5, a6, a7, a8, a9, a10⟩ := hn
    exact ⟨a0, a1, a2, a3, rfl, rfl, rfl, rfl, a8, a9, a10⟩
  · exact hr.re (hr.1.up fun q hq => o q (by omega)) hz G fun q hq => o q (by omega)
theorem q_setBoom_1 {nl na ns : Int32} (h1 : ¬ (okA nl 1000 6000 ∧ okA na 0 850 ∧ okA ns 0 3599)) (svm : Int32) (zv : Nat → Int32) : m_setBoom svm z zv nl na ns = (0, svm, 1, z, zv) := by
  unfold m_setBoom m_fails
  simp only [spLet_x]
  rw [posi_0 h1, if_pos rfl]
theorem q_setBoom_2 (h : relSt iv av z) {nl na ns : Int32} (h1 : okA nl 1000 6000 ∧ okA na 0 850 ∧ okA ns 0 3599) (h2 : ¬ okS (if iv 8 = 0 then (1 : Int32) else 0)) (svm : Int32) (zv : Nat → Int32) : m_setBoom svm z zv nl na ns = (0, svm, 2, z, zv) := by
  have e8 := h.1.2.2.2.2.2.2.2.2.1
  unfold m_setBoom m_fails
  simp only [spLet_x]
  rw [posi_1 h1, if_neg (by decide), if_neg (fun k => h2 (okS_if.mpr (by rw [e8]; exact k)))]
end CH

/-! both sides: further calls that change the state -/
section CH
variable {iv : Nat → Int32} {av : Nat → Nat → Int32} {z : Nat → Int32} {n : Nat}
theorem mlh_wind : ∀ k, k < 4 → mlo (14 + k) = 0 ∧ mhi (14 + k) = 1000 := by decide
theorem wind_m (sp : Int32) (u : Int32 × (Nat → Int32)) (z : Nat → Int32) : spIter (fun _ _ => default) (m_wind_b28 sp u) 4 0 z = (m_windNow (upd (upd (upd (upd z 14 (z 15)) 15 (z 16)) 16 (z 17)) 17 sp), u.1, 0, upd (upd (upd (upd z 14 (z 15)) 15 (z 16)) 16 (z 17)) 17 sp, u.2) := by
  simp only [spIter, m_wind_b28, spLet_x]
  rw [if_neg (show ¬ 3 ≤ 0 by decide), if_neg (show ¬ 3 ≤ 0 + 1 by decide), if_neg (show ¬ 3 ≤ 0 + 1 + 1 by decide), if_pos (show 3 ≤ 0 + 1 + 1 + 1 by decide)]
  rfl
theorem wind_x (cs : Nat → Int32) (sp : Int32) : x_X1_takeSample cs sp = upd (upd (upd (upd cs 3 (cs 2)) 2 (cs 1)) 1 (cs 0)) 0 sp := by
  unfold x_X1_takeSample
  simp only [spIter, x_X1_takeSample_b8, spLet_x]
  rw [if_neg (show ¬ (4 : Int32) - 1 ≤ 0 by decide), if_neg (show ¬ (4 : Int32) - 1 + -1 ≤ 0 by decide), if_neg (show ¬ (4 : Int32) - 1 + -1 + -1 ≤ 0 by decide), if_pos (show (4 : Int32) - 1 + -1 + -1 + -1 ≤ 0 by decide)]
  rfl
theorem q_windC (h : relSt iv av z) {sp : Int32} (h1 : okA sp 0 1000) (svm svc svn : Int32) (zv : Nat → Int32) :
    ∃ A cs' w, m_wind svm z zv sp = (A, (m_keep svm z zv).1, 0, w, (m_keep svm z zv).2) ∧ x_X8_wind svc svn (av 2) sp = (A, (x_X8_saveN svc svn).1, (x_X8_saveN svc svn).2, cs') ∧ relSt iv (avu av 2 cs') w ∧ (bnd n z → bnd n w) := by
  obtain ⟨hn, hr⟩ := h
  have hG := hr.G
  have hc := hr.1
  have s0 : av 2 0 = z 17 := hc.2.2.2 0 (by decide)
  have s1 : av 2 1 = z 16 := hc.2.2.2 1 (by decide)
  have s2 : av 2 2 = z 15 := hc.2.2.2 2 (by decide)
  have o : ∀ q, q < 14 ∨ 17 < q → upd (upd (upd (upd z 14 (z 15)) 15 (z 16)) 16 (z 17)) 17 sp q = z q := fun q hq => by rw [upd_o _ _ _ (by omega), upd_o _ _ _ (by omega), upd_o _ _ _ (by omega), upd_o _ _ _ (by omega)]
  have bw : ∀ k, 14 ≤ k → k < 18 → mlo k = 0 ∧ mhi k = 1000 := fun k h1 h2 => by
    have := mlh_wind (k - 14) (by omega)
    rw [show 14 + (k - 14) = k by omega] at this
    exact this
  have wb : ∀ k, 14 ≤ k → k < 18 → 0 ≤ (z k).toInt ∧ (z k).toInt ≤ 1000 := fun k h1 h2 => by
    have := hG k (by omega)
    rw [(bw k h1 h2).1, (bw k h1 h2).2] at this
    exact this
  have wm : ∀ j k, 14 ≤ j → j < 18 → 14 ≤ k → k < 18 → mlo j ≤ (z k).toInt ∧ (z k).toInt ≤ mhi j := fun j k a b c d => by rw [(bw j a b).1, (bw j a b).2]; exact wb k c d
  have G : mG (upd (upd (upd (upd z 14 (z 15)) 15 (z 16)) 16 (z 17)) 17 sp) := mG.upd (mG.upd (mG.upd (mG.upd hG fun _ => wm 14 15 (by omega) (by omega) (by omega) (by omega)) fun _ => wm 15 16 (by omega) (by omega) (by omega) (by omega)) fun _ => wm 16 17 (by omega) (by omega) (by omega) (by omega)) fun _ => h1
  have hs : ∀ k, k < 4 → upd (upd (upd (upd (av 2) 3 (av 2 2)) 2 (av 2 1)) 1 (av 2 0)) 0 sp k = upd (upd (upd (upd z 14 (z 15)) 15 (z 16)) 16 (z 17)) 17 sp (17 - k) := fun k hk => by
    rcases (show k = 0 ∨ k = 1 ∨ k = 2 ∨ k = 3 by omega) with rfl | rfl | rfl | rfl
    · rfl
    · exact s0
    · exact s1
    · exact s2
  refine ⟨m_windNow (upd (upd (upd (upd z 14 (z 15)) 15 (z 16)) 16 (z 17)) 17 sp), upd (upd (upd (upd (av 2) 3 (av 2 2)) 2 (av 2 1)) 1 (av 2 0)) 0 sp, upd (upd (upd (upd z 14 (z 15)) 15 (z 16)) 16 (z 17)) 17 sp, ?_, ?_, ⟨?_, ?_⟩, ?_⟩
  · unfold m_wind
    simp only [spLet_x, wind_m]
    rw [in_1 h1]
    rfl
  · unfold x_X8_wind
    simp only [spLet_x, wind_x]
    rw [q_wind hs]
  · obtain ⟨a0, a1, a2, a3, a4, a5, a6, a7, a8, a9, a10⟩ := hn
    refine ⟨?_, ?_, ?_, ?_, ?_, ?_, ?_, ?_, ?_, ?_, ?_⟩ <;> (rw [o _ (by omega)]; assumption)
  · exact hr.re ⟨by rw [o _ (by omega)]; exact hc.1, fun k hk => by rw [o _ (by omega)]; exact hc.2.1 k hk, fun k hk => by rw [o _ (by omega)]; exact hc.2.2.1 k hk, hs⟩ (hr.2.1.up fun q hq => o q (by omega)) G fun q hq => o q (by omega)
  · exact fun hb => hb.up fun q hq => o q (by omega)
theorem q_wind_1 {sp : Int32} (h1 : ¬ okA sp 0 1000) (svm : Int32) (zv : Nat → Int32) : m_wind svm z zv sp = (0, svm, 1, z, zv) := by
  unfold m_wind m_fails
  simp only [spLet_x]
  rw [in_0 h1, if_pos rfl]
end CH

/-! both sides: zones and tables that are filled -/
section CH
variable {iv : Nat → Int32} {av : Nat → Nat → Int32} {z : Nat → Int32} {n : Nat}
theorem q_addZone (h : relSt iv av z) {fr to ra he : Int32} (h1 : okA fr 0 3599) (h2 : okA to 0 3599) (h3 : okA ra 0 10000) (h4 : okA he 0 10000) (h5 : okS (if (6 : Int32) ≤ iv 12 then (0 : Int32) else 1)) (svm svc svn : Int32) (zv : Nat → Int32) :
    ∃ A zf' w, m_addZone svm z zv fr to ra he = (A, (m_keep svm z zv).1, 0, w, (m_keep svm z zv).2) ∧ x_X8_addZone svc svn (iv 12) (av 3) fr to ra he = (A, (x_X8_saveN svc svn).1, (x_X8_saveN svc svn).2, A, zf') ∧ relSt (ivu iv 12 A) (avu av 3 zf') w ∧ (bnd n z → bnd n w) := by
  obtain ⟨hn, hr⟩ := h
  have hG := hr.G
  obtain ⟨zc, zf⟩ := hr.2.1
  obtain ⟨y1, y2⟩ := hG.zones
  have h5' := okS_if'.mp h5
  have e6 : ((6 : Int32)).toInt = 6 := by decide
  have ec := nI_toInt (n := (z 18).toNatClampNeg) (by omega)
  rw [← y1] at ec
  have c6 : (z 18).toNatClampNeg < 6 := by
    have : ¬ (6 : Int) ≤ (iv 12).toInt := fun k => h5' (Int32.le_iff_toInt_le.mpr (by rw [e6]; exact k))
    rw [zc] at this
    omega
  obtain ⟨⟨p0, p1⟩, ⟨p2, p3⟩, ⟨p4, p5⟩, p6, p7⟩ := mlh_z0 _ c6
  have n1 : z 18 + 1 = nI ((z 18).toNatClampNeg + 1) := nadd y1 rfl
  generalize hc : (z 18).toNatClampNeg = c at *
  have i1 : 19 + 4 * c + 1 = 20 + 4 * c := by omega
  have i2 : 19 + 4 * c + 2 = 21 + 4 * c := by omega
  have i3 : 19 + 4 * c + 3 = 22 + 4 * c := by omega
  have o4 : upd (upd (upd (upd z (19 + 4 * c) fr) (20 + 4 * c) to) (21 + 4 * c) ra) (22 + 4 * c) he 18 = z 18 := by rw [upd_o _ _ _ (by omega), upd_o _ _ _ (by omega), upd_o _ _ _ (by omega), upd_o _ _ _ (by omega)]
  have o : ∀ q, q < 18 ∨ 43 ≤ q → upd (upd (upd (upd (upd z (19 + 4 * c) fr) (20 + 4 * c) to) (21 + 4 * c) ra) (22 + 4 * c) he) 18 (nI (c + 1)) q = z q := fun q hq => by rw [upd_o _ _ _ (by omega), upd_o _ _ _ (by omega), upd_o _ _ _ (by omega), upd_o _ _ _ (by omega), upd_o _ _ _ (by omega)]
  have b0 : mlo (19 + 4 * c) ≤ fr.toInt ∧ fr.toInt ≤ mhi (19 + 4 * c) := by rw [p0, p1]; exact h1
  have b1 : mlo (20 + 4 * c) ≤ to.toInt ∧ to.toInt ≤ mhi (20 + 4 * c) := by rw [p2, p3]; exact h2
  have b2 : mlo (21 + 4 * c) ≤ ra.toInt ∧ ra.toInt ≤ mhi (21 + 4 * c) := by rw [p4, p5]; exact h3
  have b3 : mlo (22 + 4 * c) ≤ he.toInt ∧ he.toInt ≤ mhi (22 + 4 * c) := by rw [p6, p7]; exact h4
  have b4 : mlo 18 ≤ (nI (c + 1)).toInt ∧ (nI (c + 1)).toInt ≤ mhi 18 := by
    rw [nI_toInt (by omega), show mlo 18 = 0 from rfl, show mhi 18 = 6 from rfl]
    omega
  have G : mG (upd (upd (upd (upd (upd z (19 + 4 * c) fr) (20 + 4 * c) to) (21 + 4 * c) ra) (22 + 4 * c) he) 18 (nI (c + 1))) := mG.upd (mG.upd (mG.upd (mG.upd (mG.upd hG fun _ => b0) fun _ => b1) fun _ => b2) fun _ => b3) fun _ => b4
  refine ⟨nI (c + 1), upd (upd (upd (upd (av 3) (4 * c) fr) (4 * c + 1) to) (4 * c + 2) ra) (4 * c + 3) he, upd (upd (upd (upd (upd z (19 + 4 * c) fr) (20 + 4 * c) to) (21 + 4 * c) ra) (22 + 4 * c) he) 18 (nI (c + 1)), ?_, ?_, ⟨?_, ?_⟩, fun hb => hb.up fun q hq => o q (by omega)⟩
  · unfold m_addZone
    simp only [spLet_x, hc, i1, i2, i3, o4, n1]
    rw [in_1 h1, in_1 h2, in_1 h3, in_1 h4, if_neg (by decide), if_neg (by decide), if_neg (by decide), if_neg (by decide), if_neg (by omega), upd_s]
  · have hx : x_X7_add (iv 12) (av 3) fr to ra he = (nI (c + 1), upd (upd (upd (upd (av 3) (4 * c) fr) (4 * c + 1) to) (4 * c + 2) ra) (4 * c + 3) he) := by
      unfold x_X7_add
      simp only [spLet_x]
      rw [zc, hc, if_neg (by omega), if_pos (by omega), Nat.mul_comm c 4]
    unfold x_X8_addZone x_X8_addZone_j45
    rw [if_neg h5']
    simp only [spLet_x, hx]
  · obtain ⟨a0, a1, a2, a3, a4, a5, a6, a7, a8, a9, a10⟩ := hn
    refine ⟨?_, ?_, ?_, ?_, ?_, ?_, ?_, ?_, ?_, ?_, ?_⟩ <;> (rw [ivu_o _ _ _ (by omega), o _ (by omega)]; assumption)
  · refine hr.re (zc' := nI (c + 1)) (zf' := upd (upd (upd (upd (av 3) (4 * c) fr) (4 * c + 1) to) (4 * c + 2) ra) (4 * c + 3) he) (hr.1.up fun q hq => o q (by omega)) ⟨by rw [upd_s], fun k hk => ?_⟩ G fun q hq => o q (by omega)
    by_cases e0 : k = 4 * c
    · rw [e0, upd_o _ _ _ (by omega), upd_o _ _ _ (by omega), upd_o _ _ _ (by omega), upd_s, upd_o _ _ _ (by omega), upd_o _ _ _ (by omega), upd_o _ _ _ (by omega), upd_o _ _ _ (by omega), upd_s]
    · by_cases e1 : k = 4 * c + 1
      · rw [e1, upd_o _ _ _ (by omega), upd_o _ _ _ (by omega), upd_s, show 19 + (4 * c + 1) = 20 + 4 * c by omega, upd_o _ _ _ (by omega), upd_o _ _ _ (by omega), upd_o _ _ _ (by omega), upd_s]
      · by_cases e2 : k = 4 * c + 2
        · rw [e2, upd_o _ _ _ (by omega), upd_s, show 19 + (4 * c + 2) = 21 + 4 * c by omega, upd_o _ _ _ (by omega), upd_o _ _ _ (by omega), upd_s]
        · by_cases e3 : k = 4 * c + 3
          · rw [e3, upd_s, show 19 + (4 * c + 3) = 22 + 4 * c by omega, upd_o _ _ _ (by omega), upd_s]
          · rw [upd_o _ _ _ e3, upd_o _ _ _ e2, upd_o _ _ _ e1, upd_o _ _ _ e0, upd_o _ _ _ (by omega), upd_o _ _ _ (by omega), upd_o _ _ _ (by omega), upd_o _ _ _ (by omega), upd_o _ _ _ (by omega)]
            exact zf k hk
theorem q_addZone_1 {fr to ra he : Int32} (h : ¬ (okA fr 0 3599 ∧ okA to 0 3599 ∧ okA ra 0 10000 ∧ okA he 0 10000)) (svm : Int32) (zv : Nat → Int32) : m_addZone svm z zv fr to ra he = (0, svm, 1, z, zv) := by
  have ej : m_addZone_j50 svm z zv = (0, svm, 1, z, zv) := by
    unfold m_addZone_j50 m_fails
    simp only [spLet_x]
  unfold m_addZone
  simp only [spLet_x, ej]
  by_cases h1 : okA fr 0 3599
  · rw [in_1 h1, if_neg (by decide)]
    by_cases h2 : okA to 0 3599
    · rw [in_1 h2, if_neg (by decide)]
      by_cases h3 : okA ra 0 10000
      · rw [in_1 h3, if_neg (by decide), in_0 (fun k => h ⟨h1, h2, h3, k⟩), if_pos rfl]
      · rw [in_0 h3, if_pos rfl]
    · rw [in_0 h2, if_pos rfl]
  · rw [in_0 h1, if_pos rfl]
theorem q_addZone_2 (h : relSt iv av z) {fr to ra he : Int32} (h1 : okA fr 0 3599) (h2 : okA to 0 3599) (h3 : okA ra 0 10000) (h4 : okA he 0 10000) (h5 : ¬ okS (if (6 : Int32) ≤ iv 12 then (0 : Int32) else 1)) (svm : Int32) (zv : Nat → Int32) : m_addZone svm z zv fr to ra he = (0, svm, 2, z, zv) := by
  obtain ⟨zc, zf⟩ := h.2.2.1
  have b := h.2.G.c18
  obtain ⟨y1, y2⟩ := h.2.G.zones
  have h5' : (6 : Int32) ≤ iv 12 := Decidable.not_not.mp (mt okS_if'.mpr h5)
  have e6 : ((6 : Int32)).toInt = 6 := by decide
  have ec := nI_toInt (n := (z 18).toNatClampNeg) (by omega)
  rw [← y1] at ec
  have c6 : (z 18).toNatClampNeg = 6 := by
    have := Int32.le_iff_toInt_le.mp h5'
    rw [zc, e6] at this
    omega
  unfold m_addZone m_fails
  simp only [spLet_x]
  rw [in_1 h1, in_1 h2, in_1 h3, in_1 h4, if_neg (by decide), if_neg (by decide), if_neg (by decide), if_neg (by decide), if_pos c6]
theorem mlh_sh : ∀ k, k < 20 → mlo (19 + k) = mlo (19 + k + 4) ∧ mhi (19 + k) = mhi (19 + k + 4) := by decide +kernel
theorem rz_loop {zc : Int32} {c : Nat} (hc : zc.toNatClampNeg = c) (z0 : Nat → Int32) (hz : (z0 18).toNatClampNeg = c) (c6 : c ≤ 6) (c0 : 0 < c) (u : Int32 × (Nat → Int32)) : ∀ (n1 n2 k : Nat) (zf w : Nat → Int32), k ≤ (c - 1) * 4 → (c - 1) * 4 < k + n1 → (c - 1) * 4 < k + n2 → (∀ j, j < 24 → zf j = w (19 + j)) → mG w →
    ∃ zf' w', spIter (fun _ _ => default) (x_X7_remove_b26 zc) n1 k zf = (zc - 1, zf') ∧ spIter (fun _ _ => default) (m_removeZone_b50 z0 u) n2 (19 + k) w = (w' 18, u.1, 0, w', u.2) ∧ (∀ j, j < 24 → zf' j = w' (19 + j)) ∧ mG w' ∧ ∀ q, q < 19 ∨ 43 ≤ q → w' q = w q := by
  intro n1
  induction n1 with
  | zero => intro n2 k zf w h1 h2; omega
  | succ n1 ih =>
    intro n2 k zf w h1 h2 h3 hw G
    obtain ⟨m2, rfl⟩ : ∃ m, n2 = m + 1 := ⟨n2 - 1, by omega⟩
    show ∃ zf' w', x_X7_remove_b26 zc (spIter (fun _ _ => default) (x_X7_remove_b26 zc) n1) k zf = (zc - 1, zf') ∧ m_removeZone_b50 z0 u (spIter (fun _ _ => default) (m_removeZone_b50 z0 u) m2) (19 + k) w = (w' 18, u.1, 0, w', u.2) ∧ (∀ j, j < 24 → zf' j = w' (19 + j)) ∧ mG w' ∧ ∀ q, q < 19 ∨ 43 ≤ q → w' q = w q
    have ih2 := ih m2 (k + 1)
    clear ih
    generalize spIter (fun _ _ => default) (x_X7_remove_b26 zc) n1 = R1 at ih2 ⊢
    generalize spIter (fun _ _ => default) (m_removeZone_b50 z0 u) m2 = R2 at ih2 ⊢
    unfold x_X7_remove_b26 m_removeZone_b50
    simp only [spLet_x, hc, hz]
    by_cases c1 : (c - 1) * 4 ≤ k
    · rw [if_pos c1, if_pos (by omega)]
      exact ⟨zf, w, rfl, rfl, hw, G, fun _ _ => rfl⟩
    · rw [if_neg c1, if_neg (by omega)]
      obtain ⟨m1, m3⟩ := mlh_sh k (by omega)
      have bb := G (19 + k + 4) (by omega)
      rw [← m1, ← m3] at bb
      obtain ⟨zf', w', e1, e2, e3, e4, e5⟩ := ih2 (upd zf k (zf (k + 4))) (upd w (19 + k) (w (19 + k + 4))) (by omega) (by omega) (by omega) (fun j hj => by
        by_cases e : j = k
        · rw [e, upd_s, upd_s, hw _ (by omega), Nat.add_assoc]
        · rw [upd_o _ _ _ e, upd_o _ _ _ (by omega), hw j hj]) (mG.upd G fun _ => bb)
      exact ⟨zf', w', e1, by rw [show 19 + k + 1 = 19 + (k + 1) by omega]; exact e2, e3, e4, fun q hq => by rw [e5 q hq, upd_o _ _ _ (by omega)]⟩
theorem okI_z (h : relSt iv av z) {ix : Int32} : okI ix (iv 12) ↔ okA ix 0 (z 18 - 1) := by
  have b := h.2.G.c18
  have e := zsub (x := z 18) (y := 1) rfl l_1 (by omega) (by omega)
  rw [h.2.2.1.1]
  exact okI_A (by omega)
theorem q_removeZone (h : relSt iv av z) {ix : Int32} (h1 : okI ix (iv 12)) (svm svc svn : Int32) (zv : Nat → Int32) :
    ∃ A zf' w, m_removeZone svm z zv ix = (A, (m_keep svm z zv).1, 0, w, (m_keep svm z zv).2) ∧ x_X8_removeZone svc svn (iv 12) (av 3) ix = (A, (x_X8_saveN svc svn).1, (x_X8_saveN svc svn).2, A, zf') ∧ relSt (ivu iv 12 A) (avu av 3 zf') w ∧ (bnd n z → bnd n w) := by
  have hin := in_1 ((okI_z h).mp h1)
  obtain ⟨hn, hr⟩ := h
  have hG := hr.G
  obtain ⟨zc, zf⟩ := hr.2.1
  obtain ⟨y1, y2⟩ := hG.zones
  obtain ⟨x1, x2⟩ := okI_n h1
  rw [zc] at x2
  have ez := zsub (x := z 18) (y := 1) rfl l_1 (by have := hG.c18; omega) (by have := hG.c18; omega)
  have b := hG.c18
  have ey := nI_toInt (n := (z 18).toNatClampNeg) (by omega)
  rw [← y1] at ey
  have b18 : mlo 18 ≤ (z 18 - 1).toInt ∧ (z 18 - 1).toInt ≤ mhi 18 := by
    rw [ez, show mlo 18 = 0 from rfl, show mhi 18 = 6 from rfl]
    omega
  obtain ⟨zf', w', e1, e2, e3, e4, e5⟩ := rz_loop (zc := iv 12) (c := (z 18).toNatClampNeg) (by rw [zc]) z rfl y2 (by omega) (m_keep svm z zv) 21 44 (ix.toNatClampNeg * 4) (av 3) (upd z 18 (z 18 - 1)) (by omega) (by omega) (by omega) (fun j hj => by rw [upd_o _ _ _ (by omega)]; exact zf j hj) (mG.upd hG fun _ => b18)
  have w18 : w' 18 = z 18 - 1 := by rw [e5 18 (by omega), upd_s]
  have o : ∀ q, q < 18 ∨ 43 ≤ q → w' q = z q := fun q hq => by rw [e5 q (by omega), upd_o _ _ _ (by omega)]
  refine ⟨z 18 - 1, zf', w', ?_, ?_, ⟨?_, ?_⟩, fun hb => hb.up fun q hq => o q (by omega)⟩
  · unfold m_removeZone
    simp only [spLet_x]
    rw [hin, if_neg (by decide), Nat.mul_comm 4, e2, w18]
  · have hx : x_X7_remove (iv 12) (av 3) ix = (z 18 - 1, zf') := by
      unfold x_X7_remove
      rw [if_neg (by omega), if_neg (by rw [zc]; omega), if_pos (by rw [zc]; exact y2), e1, zc]
    unfold x_X8_removeZone
    simp only [spLet_x, hx]
  · obtain ⟨a0, a1, a2, a3, a4, a5, a6, a7, a8, a9, a10⟩ := hn
    refine ⟨?_, ?_, ?_, ?_, ?_, ?_, ?_, ?_, ?_, ?_, ?_⟩ <;> (rw [ivu_o _ _ _ (by omega), o _ (by omega)]; assumption)
  · exact hr.re (zc' := z 18 - 1) (zf' := zf') (hr.1.up fun q hq => o q (by omega)) ⟨w18.symm, e3⟩ e4 fun q hq => o q (by omega)
theorem q_removeZone_1 (h : relSt iv av z) {ix : Int32} (h1 : ¬ okI ix (iv 12)) (svm : Int32) (zv : Nat → Int32) : m_removeZone svm z zv ix = (0, svm, 1, z, zv) := by
  have hin := in_0 (fun k => h1 ((okI_z h).mpr k))
  unfold m_removeZone m_fails
  simp only [spLet_x]
  rw [hin, if_pos rfl]
end CH

/-! both sides: a run of ticks -/
theorem opp_d : ∀ n, n < 256 → (((nI n &&& (nI n >>> ((1 : Int32) &&& 31))) &&& 85 = 0) ↔ ∀ k ∈ [0, 2, 4, 6], ¬ nI n &&& ((3 : Int32) <<< (nI k &&& 31)) = (3 : Int32) <<< (nI k &&& 31)) := by decide +kernel
theorem mos_byt {mos : Int32} (h : okA mos 0 255) : byt mos := by
  obtain ⟨a, b⟩ := okA_n (n := 255) (by decide) h
  exact ⟨a, by omega⟩
theorem isMo_1 {mos : Int32} (h1 : okA mos 0 255) (h2 : okN mos) : m_isMotions mos = 1 := by
  obtain ⟨a, b⟩ := mos_byt h1
  have d := opp_d _ b
  rw [← a] at d
  unfold m_isMotions
  simp only [spLet_x]
  rw [in_1 h1, if_neg (by decide), if_pos (d.mpr h2)]
theorem isMo_0 {mos : Int32} (h : ¬ (okA mos 0 255 ∧ okN mos)) : m_isMotions mos = 0 := by
  unfold m_isMotions
  simp only [spLet_x]
  by_cases h1 : okA mos 0 255
  · obtain ⟨a, b⟩ := mos_byt h1
    have d := opp_d _ b
    rw [← a] at d
    rw [in_1 h1, if_neg (by decide), if_neg (fun k => h ⟨h1, d.mp k⟩)]
  · rw [in_0 h1, if_pos rfl]
/-- the state behind a tick, in the class's order -/
def ivT (iv w : Nat → Int32) (go gc yg : Int32) : Nat → Int32 := stI (w 7) (w 8) (w 9) (w 11) (w 0) (w 1) (w 2) (w 3) (w 4) (iv 9) (iv 10) (iv 11) (iv 12) go gc yg
def avT (av : Nat → Nat → Int32) (gt gk gv ys yl : Nat → Int32) : Nat → Nat → Int32 := stA (av 0) (av 1) (av 2) (av 3) gt gk gv ys yl
theorem run_loop {ma ta cw zc mos tk : Int32} {cv ce cs zf : Nat → Int32} (hm : byt mos) (u : Int32 × Int32) (v : Int32 × (Nat → Int32)) : ∀ (n k : Nat) (r mm mr : Int32) (z zp : Nat → Int32) (go gc yg : Int32) (gt gk gv ys yl : Nat → Int32) (b : Nat), k ≤ tk.toNatClampNeg → tk.toNatClampNeg < k + n → relZ cw zc go gc yg cv ce cs zf gt gk gv ys yl z → z 6 = ma → z 5 = ta → b + tk.toNatClampNeg < 2000000000 + k → bnd b z →
    ∃ r' mm' mr' w zp' go' gc' yg' gt' gk' gv' ys' yl', spIter (fun _ _ _ _ _ _ _ _ _ _ _ _ _ _ _ _ _ _ _ => default) (x_X8_run_b28 ma ta cw cv ce cs zc zf mos tk u) n r k (z 7) (z 8) (z 9) (z 11) (z 0) (z 1) (z 2) (z 3) (z 4) go gc gt gk gv yg ys yl = (r', u.1, u.2, w 7, w 8, w 9, w 11, w 0, w 1, w 2, w 3, w 4, go', gc', gt', gk', gv', yg', ys', yl') ∧
      spIter (fun _ _ _ _ _ _ => default) (m_run_b37 mos tk v) n r k mm mr z zp = (r', v.1, 0, mm', mr', w, v.2, zp') ∧ relZ cw zc go' gc' yg' cv ce cs zf gt' gk' gv' ys' yl' w ∧ w 6 = ma ∧ w 5 = ta ∧ bnd (b + (tk.toNatClampNeg - k)) w := by
  intro n
  induction n with
  | zero => intro k r mm mr z zp go gc yg gt gk gv ys yl b h1 h2; omega
  | succ n ih =>
    intro k r mm mr z zp go gc yg gt gk gv ys yl b h1 h2 hr h6 h5 hb hB
    show ∃ r' mm' mr' w zp' go' gc' yg' gt' gk' gv' ys' yl', x_X8_run_b28 ma ta cw cv ce cs zc zf mos tk u (spIter (fun _ _ _ _ _ _ _ _ _ _ _ _ _ _ _ _ _ _ _ => default) (x_X8_run_b28 ma ta cw cv ce cs zc zf mos tk u) n) r k (z 7) (z 8) (z 9) (z 11) (z 0) (z 1) (z 2) (z 3) (z 4) go gc gt gk gv yg ys yl = (r', u.1, u.2, w 7, w 8, w 9, w 11, w 0, w 1, w 2, w 3, w 4, go', gc', gt', gk', gv', yg', ys', yl') ∧
      m_run_b37 mos tk v (spIter (fun _ _ _ _ _ _ => default) (m_run_b37 mos tk v) n) r k mm mr z zp = (r', v.1, 0, mm', mr', w, v.2, zp') ∧ relZ cw zc go' gc' yg' cv ce cs zf gt' gk' gv' ys' yl' w ∧ w 6 = ma ∧ w 5 = ta ∧ bnd (b + (tk.toNatClampNeg - k)) w
    have ih2 := ih (k + 1)
    clear ih
    generalize spIter (fun _ _ _ _ _ _ _ _ _ _ _ _ _ _ _ _ _ _ _ => default) (x_X8_run_b28 ma ta cw cv ce cs zc zf mos tk u) n = R1 at ih2 ⊢
    generalize spIter (fun _ _ _ _ _ _ => default) (m_run_b37 mos tk v) n = R2 at ih2 ⊢
    unfold x_X8_run_b28 m_run_b37
    by_cases c : tk.toNatClampNeg ≤ k
    · rw [if_pos c, if_pos c]
      exact ⟨r, mm, mr, z, zp, go, gc, yg, gt, gk, gv, ys, yl, rfl, rfl, hr, h6, h5, hB.o' (by omega)⟩
    · rw [if_neg c, if_neg c]
      obtain ⟨go1, gc1, gt1, gk1, gv1, yg1, ys1, yl1, e1, r1, ⟨f5, f6⟩, B1⟩ := q_tick hr hm mm mr zp
      rw [h6, h5] at e1
      have B2 := B1 b (by omega) hB
      rw [e1]
      unfold x_X8_run_j45 m_run_j57
      simp only [spLet_x]
      generalize m_tick mm mr z zp mos = T at r1 f5 f6 B2 ⊢
      by_cases d : T.1 = 0
      · rw [if_pos d, if_pos d, Int32.add_zero]
        obtain ⟨a1, a2, a3, a4, a5, a6, a7, a8, a9, a10, a11, a12, a13, p1, p2, p3, p4, p5, p6⟩ := ih2 r T.2.1 T.2.2.1 T.2.2.2.1 T.2.2.2.2 go1 gc1 yg1 gt1 gk1 gv1 ys1 yl1 (b + 1) (by omega) (by omega) r1 (by rw [f6, h6]) (by rw [f5, h5]) (by omega) B2
        exact ⟨a1, a2, a3, a4, a5, a6, a7, a8, a9, a10, a11, a12, a13, p1, p2, p3, p4, p5, p6.o' (by omega)⟩
      · rw [if_neg d, if_neg d]
        obtain ⟨a1, a2, a3, a4, a5, a6, a7, a8, a9, a10, a11, a12, a13, p1, p2, p3, p4, p5, p6⟩ := ih2 (r + 1) T.2.1 T.2.2.1 T.2.2.2.1 T.2.2.2.2 go1 gc1 yg1 gt1 gk1 gv1 ys1 yl1 (b + 1) (by omega) (by omega) r1 (by rw [f6, h6]) (by rw [f5, h5]) (by omega) B2
        exact ⟨a1, a2, a3, a4, a5, a6, a7, a8, a9, a10, a11, a12, a13, p1, p2, p3, p4, p5, p6.o' (by omega)⟩
theorem relSt_T {iv : Nat → Int32} {av : Nat → Nat → Int32} {w : Nat → Int32} {go gc yg : Int32} {gt gk gv ys yl : Nat → Int32} (hr : relZ (iv 11) (iv 12) go gc yg (av 0) (av 1) (av 2) (av 3) gt gk gv ys yl w) (h6 : w 6 = iv 9) (h5 : w 5 = iv 10) : relSt (ivT iv w go gc yg) (avT av gt gk gv ys yl) w := ⟨⟨rfl, rfl, rfl, rfl, rfl, rfl, rfl, rfl, rfl, h6.symm, h5.symm⟩, hr⟩
theorem q_run {iv : Nat → Int32} {av : Nat → Nat → Int32} {z : Nat → Int32} {b : Nat} (h : relSt iv av z) {mos tk : Int32} (h1 : okA mos 0 255) (h2 : okN mos) (h3 : okA tk 1 100) (hb : b < 1000000000) (hB : bnd b z) (svm svc svn mm mr : Int32) (zv zp : Nat → Int32) :
    ∃ A mm' mr' w zp' go gc yg gt gk gv ys yl, m_run svm mm mr z zv zp mos tk = (A, (m_keep svm z zv).1, 0, mm', mr', w, (m_keep svm z zv).2, zp') ∧ x_X8_run svc svn (iv 0) (iv 1) (iv 2) (iv 3) (iv 4) (iv 5) (iv 6) (iv 7) (iv 8) (iv 9) (iv 10) (iv 11) (av 0) (av 1) (av 2) (iv 12) (av 3) (iv 13) (iv 14) (av 4) (av 5) (av 6) (iv 15) (av 7) (av 8) mos tk = (A, (x_X8_saveN svc svn).1, (x_X8_saveN svc svn).2, w 7, w 8, w 9, w 11, w 0, w 1, w 2, w 3, w 4, go, gc, gt, gk, gv, yg, ys, yl) ∧ relSt (ivT iv w go gc yg) (avT av gt gk gv ys yl) w ∧ bnd (b + 100) w := by
  obtain ⟨⟨a0, a1, a2, a3, a4, a5, a6, a7, a8, a9, a10⟩, hr⟩ := h
  obtain ⟨t1, t2⟩ := okA_n1 (n := 100) (by decide) h3
  obtain ⟨r', mm', mr', w, zp', go, gc, yg, gt, gk, gv, ys, yl, e1, e2, e3, e4, e5, e6⟩ := run_loop (ma := z 6) (ta := z 5) (tk := tk) (mos_byt h1) (x_X8_saveN svc svn) (m_keep svm z zv) (tk.toNatClampNeg + 1) 0 0 mm mr z zp (iv 13) (iv 14) (iv 15) (av 4) (av 5) (av 6) (av 7) (av 8) b (by omega) (by omega) hr rfl rfl (by omega) hB
  refine ⟨r', mm', mr', w, zp', go, gc, yg, gt, gk, gv, ys, yl, ?_, ?_, relSt_T e3 (by rw [e4, a9]) (by rw [e5, a10]), e6.o' (by omega)⟩
  · unfold m_run
    simp only [spLet_x]
    rw [isMo_1 h1 h2, in_1 h3, if_neg (by decide), if_neg (by decide), e2]
  · unfold x_X8_run
    simp only [spLet_x]
    rw [a0, a1, a2, a3, a4, a5, a6, a7, a8, a9, a10, e1]
theorem q_run_1 {mos tk : Int32} (h : ¬ (okA mos 0 255 ∧ okN mos ∧ okA tk 1 100)) (svm mm mr : Int32) (z zv zp : Nat → Int32) : m_run svm mm mr z zv zp mos tk = (0, svm, 1, mm, mr, z, zv, zp) := by
  have ej : m_run_j22 svm mm mr z zv zp = (0, svm, 1, mm, mr, z, zv, zp) := by
    unfold m_run_j22 m_fails
    simp only [spLet_x]
  unfold m_run
  simp only [spLet_x, ej]
  by_cases h1 : okA mos 0 255 ∧ okN mos
  · rw [isMo_1 h1.1 h1.2, if_neg (by decide), in_0 (fun k => h ⟨h1.1, h1.2, k⟩), if_pos rfl]
  · rw [isMo_0 h1, if_pos rfl]

