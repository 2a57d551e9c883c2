/-! both sides: a whole tick -/
theorem j41_o {f : Nat → Int32} (hG : mG f) (u : Int32) {q : Nat} (hq : q < 12 ∨ (13 < q ∧ q < 143) ∨ (234 ≤ q ∧ q < 238)) : m_follow_j41 u f q = f q := by
  unfold m_follow_j41
  simp only [spLet_x]
  split
  · split
    · have gG : mG (upd f 13 (m_greater (f 13) u)) := mG.upd hG fun _ => fol13 hG u
      obtain ⟨i1, i2⟩ := fol_its gG
      rw [log_o (mG.upd (mG.upd (mG.upd gG fun _ => ⟨by decide, by decide⟩) fun _ => ⟨by decide, by decide⟩) fun _ => mfree (by omega) _) _ _ (by omega), upd_o _ _ _ (by omega), upd_o _ _ _ (by omega), upd_o _ _ _ (by omega), upd_o _ _ _ (by omega)]
    · rw [upd_o _ _ _ (by omega)]
  · rfl
theorem follow_o {f : Nat → Int32} (hG : mG f) (tb u : Int32) {q : Nat} (hq : q < 12 ∨ (13 < q ∧ q < 143) ∨ (234 ≤ q ∧ q < 238)) : m_follow f tb u q = f q := by
  unfold m_follow
  simp only [spLet_x]
  split
  · exact j41_o hG u hq
  · split
    · split
      · rw [j41_o (mG.upd (mG.upd hG fun _ => ⟨by decide, by decide⟩) fun _ => ⟨by decide, by decide⟩) u hq, upd_o _ _ _ (by omega), upd_o _ _ _ (by omega)]
      · exact j41_o hG u hq
    · exact j41_o hG u hq
/-- the counts of lifts are small -/
def bnd (n : Nat) (z : Nat → Int32) : Prop := ∀ k, k < 8 → 0 ≤ (z (238 + k)).toInt ∧ (z (238 + k)).toInt ≤ n
theorem bnd.o' {m n : Nat} {z : Nat → Int32} (h : bnd m z) (hm : m ≤ n) : bnd n z := fun k hk => ⟨(h k hk).1, by have := (h k hk).2; omega⟩
theorem bnd.log {n : Nat} {z : Nat → Int32} (h : bnd n z) (hG : mG z) (kd vl : Int32) : bnd n (m_log z kd vl) := fun k hk => by rw [log_o hG kd vl (by omega)]; exact h k hk
theorem bnd.o {n : Nat} {z : Nat → Int32} (h : bnd n z) {w : Nat → Int32} (e : ∀ q, 238 ≤ q ∧ q < 246 → w q = z q) : bnd n w := fun k hk => by rw [e _ (by omega)]; exact h k hk
theorem bnd.inc {n : Nat} {z : Nat → Int32} (h : bnd n z) (hn : n < 2000000000) {j : Nat} (hj : j < 8) : bnd (n + 1) (upd z (238 + j) (z (238 + j) + 1)) := fun k hk => by
  have b := h j hj
  by_cases e : k = j
  · rw [e, upd_s, zadd rfl l_1 (by omega) (by omega)]
    omega
  · rw [upd_o _ _ _ (by omega)]
    have := h k hk
    omega
theorem j41_b {n : Nat} {f : Nat → Int32} (h : bnd n f) (hG : mG f) (hn : n < 2000000000) (u : Int32) : bnd (n + 1) (m_follow_j41 u f) := by
  unfold m_follow_j41
  simp only [spLet_x]
  have h1 : bnd (n + 1) f := fun k hk => ⟨(h k hk).1, by have := (h k hk).2; omega⟩
  split
  · split
    · have gG : mG (upd f 13 (m_greater (f 13) u)) := mG.upd hG fun _ => fol13 hG u
      obtain ⟨i1, i2⟩ := fol_its gG
      refine bnd.log (bnd.inc (bnd.o h fun q hq => ?_) hn i2) (mG.upd (mG.upd (mG.upd gG fun _ => ⟨by decide, by decide⟩) fun _ => ⟨by decide, by decide⟩) fun _ => mfree (by omega) _) _ _
      rw [upd_o _ _ _ (by omega), upd_o _ _ _ (by omega), upd_o _ _ _ (by omega)]
    · exact h1.o fun q hq => upd_o _ _ _ (by omega)
  · exact h1
theorem follow_b {n : Nat} {f : Nat → Int32} (h : bnd n f) (hG : mG f) (hn : n < 2000000000) (tb u : Int32) : bnd (n + 1) (m_follow f tb u) := by
  unfold m_follow
  simp only [spLet_x]
  split
  · exact j41_b h hG hn u
  · split
    · split
      · exact j41_b (h.o fun q hq => by rw [upd_o _ _ _ (by omega), upd_o _ _ _ (by omega)]) (mG.upd (mG.upd hG fun _ => ⟨by decide, by decide⟩) fun _ => ⟨by decide, by decide⟩) hn u
      · exact j41_b h hG hn u
    · exact j41_b h hG hn u
/-- a tick's start -/
def tk0 (z : Nat → Int32) : Nat → Int32 := upd (upd z 8 (z 8 + 1)) 9 (m_greater 0 (z 9 - 1))
def tk1 (mm mr : Int32) (z zp : Nat → Int32) (mos : Int32) : Nat → Int32 := upd (m_move mm mr (tk0 z) zp mos).2.2.2.1 11 (m_move mm mr (tk0 z) zp mos).1
theorem j124_e (a x c r p q : Int32) (w zp : Nat → Int32) : (m_tick_j124 a x c r p q w zp).1 = (if x = 0 then 1 else 0) ∧ (m_tick_j124 a x c r p q w zp).2.2.2.1 = m_follow (upd w (234 + r.toNatClampNeg) (w (234 + r.toNatClampNeg) + 1)) a c := by
  unfold m_tick_j124
  simp only [spLet_x]
  split <;> exact ⟨rfl, rfl⟩
theorem tick_e (mm mr : Int32) (z zp : Nat → Int32) (mos : Int32) :
    (m_tick mm mr z zp mos).1 = (if (m_move mm mr (tk0 z) zp mos).1 = 0 then 1 else 0) ∧
    (m_tick mm mr z zp mos).2.2.2.1 = m_follow (upd (eS (tk1 mm mr z zp mos) (m_nextState (tk1 mm mr z zp mos) (uPre (tk1 mm mr z zp mos))) (uPre (tk1 mm mr z zp mos))) (234 + (m_nextState (tk1 mm mr z zp mos) (uPre (tk1 mm mr z zp mos))).toNatClampNeg) (eS (tk1 mm mr z zp mos) (m_nextState (tk1 mm mr z zp mos) (uPre (tk1 mm mr z zp mos))) (uPre (tk1 mm mr z zp mos)) (234 + (m_nextState (tk1 mm mr z zp mos) (uPre (tk1 mm mr z zp mos))).toNatClampNeg) + 1)) (z 4) (uPre (tk1 mm mr z zp mos)) := by
  have z1 : ¬ ((1 : Int32) = 0) := by decide
  have e9 : upd z 8 (z 8 + 1) 9 = z 9 := upd_o _ _ _ (by decide)
  unfold m_tick m_tick_j83 m_tick_j106
  simp only [spLet_x, e9, util_mr]
  rw [show upd (upd z 8 (z 8 + 1)) 9 (m_greater 0 (z 9 - 1)) = tk0 z from rfl]
  rw [show upd (m_move mm mr (tk0 z) zp mos).2.2.2.1 11 (m_move mm mr (tk0 z) zp mos).1 = tk1 mm mr z zp mos from rfl]
  rw [show m_utilizationAt (mMas (tk1 mm mr z zp mos)) (mRad (tk1 mm mr z zp mos)) (tk1 mm mr z zp mos) (tk1 mm mr z zp mos 2) = uPre (tk1 mm mr z zp mos) from rfl]
  generalize m_move mm mr (tk0 z) zp mos = P
  generalize tk1 mm mr z zp mos = f
  generalize uPre f = u
  generalize m_nextState f u = r
  unfold eS
  by_cases c : r = f 7
  · simp only [if_pos c, if_true]
    exact j124_e ..
  · simp only [if_neg c, if_neg z1]
    by_cases d : r.toNatClampNeg = 2
    · simp only [if_pos d]
      exact j124_e ..
    · simp only [if_neg d]
      exact j124_e ..
/-- what a class's state and the cells have in common, but for the numbers that are cells themselves -/
def relZ (cw zc go gc yg : Int32) (cv ce cs zf gt gk gv ys yl z : Nat → Int32) : Prop := cTab cw cv ce cs z ∧ cZon zc zf z ∧ logR go gc gt gk gv z ∧ lifR yg ys yl z ∧ mG z ∧ byt (z 11)
theorem lifR_u {yg : Int32} {ys yl z w : Nat → Int32} (h : lifR yg ys yl z) (f : frP z w) : lifR yg ys yl w := by
  obtain ⟨h1, h2, h3⟩ := h
  exact ⟨by rw [f 12 (by omega), f 13 (by omega)]; exact h1, fun k hk => by rw [f _ (by omega)]; exact h2 k hk, fun k hk => by rw [f _ (by omega)]; exact h3 k hk⟩
theorem q_tick {cw zc go gc yg mos : Int32} {cv ce cs zf gt gk gv ys yl z : Nat → Int32} (h : relZ cw zc go gc yg cv ce cs zf gt gk gv ys yl z) (hm : byt mos) (mm mr : Int32) (zp : Nat → Int32) :
    ∃ go' gc' gt' gk' gv' yg' ys' yl', x_X8_tick (z 7) (z 8) (z 9) (z 11) (z 0) (z 1) (z 2) (z 3) (z 4) (z 6) (z 5) cw cv ce cs zc zf go gc gt gk gv yg ys yl mos = ((m_tick mm mr z zp mos).1, (m_tick mm mr z zp mos).2.2.2.1 7, (m_tick mm mr z zp mos).2.2.2.1 8, (m_tick mm mr z zp mos).2.2.2.1 9, (m_tick mm mr z zp mos).2.2.2.1 11, (m_tick mm mr z zp mos).2.2.2.1 0, (m_tick mm mr z zp mos).2.2.2.1 1, (m_tick mm mr z zp mos).2.2.2.1 2, (m_tick mm mr z zp mos).2.2.2.1 3, (m_tick mm mr z zp mos).2.2.2.1 4, go', gc', gt', gk', gv', yg', ys', yl') ∧ relZ cw zc go' gc' yg' cv ce cs zf gt' gk' gv' ys' yl' (m_tick mm mr z zp mos).2.2.2.1 ∧ ((m_tick mm mr z zp mos).2.2.2.1 5 = z 5 ∧ (m_tick mm mr z zp mos).2.2.2.1 6 = z 6) ∧ ∀ n, n < 2000000000 → bnd n z → bnd (n + 1) (m_tick mm mr z zp mos).2.2.2.1 := by
  obtain ⟨hc, hz, hL, hT, hG, hb⟩ := h
  have z1 : ¬ ((1 : Int32) = 0) := by decide
  obtain ⟨te1, te2⟩ := tick_e mm mr z zp mos
  have h9 := hG.c9
  -- the start
  have o0 : ∀ q, ¬ q = 8 → ¬ q = 9 → tk0 z q = z q := fun q h1 h2 => by unfold tk0; rw [upd_o _ _ _ h2, upd_o _ _ _ h1]
  have e8 : tk0 z 8 = z 8 + 1 := by unfold tk0; rw [upd_o _ _ _ (by decide), upd_s]
  have e9 : tk0 z 9 = m_greater 0 (z 9 - 1) := by unfold tk0; rw [upd_s]
  have G0 : mG (tk0 z) := mG.upd (mG.upd hG fun _ => mfree8 _) fun _ => tick9 hG
  have c0 : cTab cw cv ce cs (tk0 z) := by
    obtain ⟨a1, a2, a3, a4⟩ := hc
    exact ⟨by rw [o0 10 (by omega) (by omega)]; exact a1, fun k hk => by rw [o0 _ (by omega) (by omega)]; exact a2 k hk, fun k hk => by rw [o0 _ (by omega) (by omega)]; exact a3 k hk, fun k hk => by rw [o0 _ (by omega) (by omega)]; exact a4 k hk⟩
  have z0 : cZon zc zf (tk0 z) := by
    obtain ⟨a1, a2⟩ := hz
    exact ⟨by rw [o0 18 (by omega) (by omega)]; exact a1, fun k hk => by rw [o0 _ (by omega) (by omega)]; exact a2 k hk⟩
  have L0 : logR go gc gt gk gv (tk0 z) := logR_u hL fun q h1 h2 => o0 q (by omega) (by omega)
  have T0 : lifR yg ys yl (tk0 z) := by
    obtain ⟨a1, a2, a3⟩ := hT
    exact ⟨by rw [o0 12 (by omega) (by omega), o0 13 (by omega) (by omega)]; exact a1, fun k hk => by rw [o0 _ (by omega) (by omega)]; exact a2 k hk, fun k hk => by rw [o0 _ (by omega) (by omega)]; exact a3 k hk⟩
  have b0 : byt (tk0 z 11) := by rw [o0 11 (by omega) (by omega)]; exact hb
  have hx : x_X8_tick (z 7) (z 8) (z 9) (z 11) (z 0) (z 1) (z 2) (z 3) (z 4) (z 6) (z 5) cw cv ce cs zc zf go gc gt gk gv yg ys yl mos = spIter (fun _ _ _ _ _ _ _ _ _ _ _ _ => default) (x_X8_tick_b52 (tk0 z 7) (tk0 z 11) (z 4) (tk0 z 6) (tk0 z 5) cw cv ce cs zc zf yg ys yl mos (tk0 z 8) (tk0 z 9)) 9 0 0 (tk0 z 0) (tk0 z 1) (tk0 z 2) (tk0 z 3) (tk0 z 4) go gc gt gk gv := by
    rw [o0 7 (by omega) (by omega), o0 11 (by omega) (by omega), o0 6 (by omega) (by omega), o0 5 (by omega) (by omega), o0 0 (by omega) (by omega), o0 1 (by omega) (by omega), o0 2 (by omega) (by omega), o0 3 (by omega) (by omega), o0 4 (by omega) (by omega), e8, e9]
    unfold x_X8_tick x_X8_tick_j47
    simp only [spLet_x]
    by_cases c : z 9 ≤ 0
    · have c2 : (z 9).toInt = 0 := by have := (le_i l_0).mp c; omega
      have c3 : z 9 = 0 := Int32.toInt_inj.mp (by rw [c2, l_0])
      have e : m_greater 0 (z 9 - 1) = z 9 := by rw [c3]; decide
      rw [if_pos c, e]
    · have c2 : ¬ (z 9).toInt ≤ 0 := fun k => c ((le_i l_0).mpr k)
      have e : m_greater 0 (z 9 - 1) = z 9 - 1 := by
        apply Int32.toInt_inj.mp
        rw [greater_r, zsub rfl l_1 (by omega) (by omega), l_0]
        omega
      rw [if_neg c, e]
  obtain ⟨go1, gc1, gt1, gk1, gv1, em, L1, f1, G1, v1⟩ := mv_loop (te0 := z 4) (yg := yg) (ys := ys) (yl := yl) (by_ := tk0 z 9) c0 z0 hm b0 9 0 0 mm mr (tk0 z) zp go gc gt gk gv (by omega) (by omega) G0 (fun q hq => rfl) ⟨rfl, by decide⟩ L0
  rw [show spIter (fun _ _ _ _ _ _ => default) (m_move_b4 mos) 9 0 0 mm mr (tk0 z) zp = m_move mm mr (tk0 z) zp mos from rfl] at em L1 f1 G1 v1
  rw [hx, em, te1, te2]
  have hk : tk1 mm mr z zp mos = upd (m_move mm mr (tk0 z) zp mos).2.2.2.1 11 (m_move mm mr (tk0 z) zp mos).1 := rfl
  rw [hk]
  generalize (m_move mm mr (tk0 z) zp mos).2.2.2.1 = w at L1 f1 G1
  generalize (m_move mm mr (tk0 z) zp mos).1 = v at v1
  have o1 : ∀ q, ¬ q = 11 → upd w 11 v q = w q := fun q h1 => upd_o _ _ _ h1
  have e11 : upd w 11 v 11 = v := upd_s _ _ _
  have Gf : mG (upd w 11 v) := mG.upd G1 fun _ => mfree11 _
  have cf : cTab cw cv ce cs (upd w 11 v) := by
    obtain ⟨a1, a2, a3, a4⟩ := f1.tab c0
    exact ⟨by rw [o1 10 (by omega)]; exact a1, fun k hk => by rw [o1 _ (by omega)]; exact a2 k hk, fun k hk => by rw [o1 _ (by omega)]; exact a3 k hk, fun k hk => by rw [o1 _ (by omega)]; exact a4 k hk⟩
  have zf' : cZon zc zf (upd w 11 v) := by
    obtain ⟨a1, a2⟩ := f1.zon z0
    exact ⟨by rw [o1 18 (by omega)]; exact a1, fun k hk => by rw [o1 _ (by omega)]; exact a2 k hk⟩
  have Lf : logR go1 gc1 gt1 gk1 gv1 (upd w 11 v) := logR_u L1 fun q h1 h2 => o1 q (by omega)
  have Tf : lifR yg ys yl (upd w 11 v) := by
    obtain ⟨a1, a2, a3⟩ := lifR_u T0 f1
    exact ⟨by rw [o1 12 (by omega), o1 13 (by omega)]; exact a1, fun k hk => by rw [o1 _ (by omega)]; exact a2 k hk, fun k hk => by rw [o1 _ (by omega)]; exact a3 k hk⟩
  have q7 : upd w 11 v 7 = tk0 z 7 := by rw [o1 7 (by omega), f1 7 (by omega)]
  have q8 : upd w 11 v 8 = tk0 z 8 := by rw [o1 8 (by omega), f1 8 (by omega)]
  have q9 : upd w 11 v 9 = tk0 z 9 := by rw [o1 9 (by omega), f1 9 (by omega)]
  have q5 : upd w 11 v 5 = tk0 z 5 := by rw [o1 5 (by omega), f1 5 (by omega)]
  have q6 : upd w 11 v 6 = tk0 z 6 := by rw [o1 6 (by omega), f1 6 (by omega)]
  have p5 : upd w 11 v 5 = z 5 := by rw [q5, o0 5 (by omega) (by omega)]
  have p6 : upd w 11 v 6 = z 6 := by rw [q6, o0 6 (by omega) (by omega)]
  have pb : ∀ q, 238 ≤ q ∧ q < 246 → upd w 11 v q = z q := fun q hq => by rw [o1 q (by omega), f1 q (by omega), o0 q (by omega) (by omega)]
  rw [← o1 0 (by omega), ← o1 1 (by omega), ← o1 2 (by omega), ← o1 3 (by omega), ← o1 4 (by omega), ← q7, ← q8, ← q9, ← q5, ← q6]
  generalize upd w 11 v = f at *
  have sl := Gf.c2
  have eu : x_X8_utilizationAtN (f 0) (f 1) (f 4) (f 6) (f 5) cw cv ce cs (f 2) = uPre f := q_utilN cf Gf sl.1 (by omega)
  obtain ⟨r1, r2⟩ := nextState_n f (uPre f)
  have en := q_next f (uPre f)
  obtain ⟨go2, gc2, gt2, gk2, gv2, ee, L2⟩ := q_enter Lf Gf (uPre f) r1 r2
  have G2 := eS_G Gf (uPre f) r1 r2
  have o2 : ∀ q, (q < 143 ∨ 234 ≤ q) → ¬ q = 7 → eS f (m_nextState f (uPre f)) (uPre f) q = f q := fun q h1 h2 => by rw [eS_o Gf (uPre f) r1 r2 h1, upd_o _ _ _ h2]
  have o27 : eS f (m_nextState f (uPre f)) (uPre f) 7 = m_nextState f (uPre f) := by rw [eS_o Gf (uPre f) r1 r2 (by omega), upd_s]
  have T2 : lifR yg ys yl (eS f (m_nextState f (uPre f)) (uPre f)) := by
    obtain ⟨a1, a2, a3⟩ := Tf
    exact ⟨by rw [o2 12 (by omega) (by omega), o2 13 (by omega) (by omega)]; exact a1, fun k hk => by rw [o2 _ (by omega) (by omega)]; exact a2 k hk, fun k hk => by rw [o2 _ (by omega) (by omega)]; exact a3 k hk⟩
  obtain ⟨go3, gc3, gt3, gk3, gv3, yg3, ys3, yl3, ec, L3, T3⟩ := q_count L2 G2 T2 r1 r2 (z 4) (uPre f)
  rw [o2 8 (by omega) (by omega), o2 4 (by omega) (by omega)] at ec
  have Gu : mG (upd (eS f (m_nextState f (uPre f)) (uPre f)) (234 + (m_nextState f (uPre f)).toNatClampNeg) (eS f (m_nextState f (uPre f)) (uPre f) (234 + (m_nextState f (uPre f)).toNatClampNeg) + 1)) := mG.upd G2 fun _ => mfree (by omega) _
  have G3 := follow_G Gu (z 4) (uPre f)
  have o3 : ∀ q, (q < 12 ∨ (13 < q ∧ q < 143)) → ¬ q = 7 → m_follow (upd (eS f (m_nextState f (uPre f)) (uPre f)) (234 + (m_nextState f (uPre f)).toNatClampNeg) (eS f (m_nextState f (uPre f)) (uPre f) (234 + (m_nextState f (uPre f)).toNatClampNeg) + 1)) (z 4) (uPre f) q = f q := fun q h1 h2 => by
    rw [follow_o Gu _ _ (by omega), upd_o _ _ _ (by omega), o2 q (by omega) h2]
  have o37 : m_follow (upd (eS f (m_nextState f (uPre f)) (uPre f)) (234 + (m_nextState f (uPre f)).toNatClampNeg) (eS f (m_nextState f (uPre f)) (uPre f) (234 + (m_nextState f (uPre f)).toNatClampNeg) + 1)) (z 4) (uPre f) 7 = m_nextState f (uPre f) := by
    rw [follow_o Gu _ _ (by omega), upd_o _ _ _ (by omega), o27]
  have hB : ∀ n, n < 2000000000 → bnd n z → bnd (n + 1) (m_follow (upd (eS f (m_nextState f (uPre f)) (uPre f)) (234 + (m_nextState f (uPre f)).toNatClampNeg) (eS f (m_nextState f (uPre f)) (uPre f) (234 + (m_nextState f (uPre f)).toNatClampNeg) + 1)) (z 4) (uPre f)) := fun n hn hb => follow_b (hb.o fun q hq => by rw [upd_o _ _ _ (by omega), o2 q (by omega) (by omega), pb q hq]) Gu hn _ _
  generalize m_follow (upd (eS f (m_nextState f (uPre f)) (uPre f)) (234 + (m_nextState f (uPre f)).toNatClampNeg) (eS f (m_nextState f (uPre f)) (uPre f) (234 + (m_nextState f (uPre f)).toNatClampNeg) + 1)) (z 4) (uPre f) = W at L3 T3 G3 o3 o37 hB ⊢
  refine ⟨go3, gc3, gt3, gk3, gv3, yg3, ys3, yl3, ?_, ⟨?_, ?_, L3, T3, G3, ?_⟩, ⟨by rw [o3 5 (by omega) (by omega), p5], by rw [o3 6 (by omega) (by omega), p6]⟩, hB⟩
  · rw [o37, o3 8 (by omega) (by omega), o3 9 (by omega) (by omega), o3 11 (by omega) (by omega), o3 0 (by omega) (by omega), o3 1 (by omega) (by omega), o3 2 (by omega) (by omega), o3 3 (by omega) (by omega), o3 4 (by omega) (by omega), e11]
    unfold x_X8_tick_b52
    simp only [if_pos (show 8 ≤ 8 by decide), spLet_x, eu, en, ee, ec]
    split <;> rfl
  · obtain ⟨a1, a2, a3, a4⟩ := cf
    exact ⟨by rw [o3 10 (by omega) (by omega)]; exact a1, fun k hk => by rw [o3 _ (by omega) (by omega)]; exact a2 k hk, fun k hk => by rw [o3 _ (by omega) (by omega)]; exact a3 k hk, fun k hk => by rw [o3 _ (by omega) (by omega)]; exact a4 k hk⟩
  · obtain ⟨a1, a2⟩ := zf'
    exact ⟨by rw [o3 18 (by omega) (by omega)]; exact a1, fun k hk => by rw [o3 _ (by omega) (by omega)]; exact a2 k hk⟩
  · rw [o3 11 (by omega) (by omega), e11]; exact v1
