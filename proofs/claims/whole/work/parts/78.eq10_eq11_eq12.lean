/-! both sides: a tick -/
/-- all but the boom's five numbers and the log stay -/
def frP (z w : Nat → Int32) : Prop := ∀ q, (4 < q ∧ q < 143) ∨ 234 ≤ q → w q = z q
theorem frP.tab {cw : Int32} {cv ce cs z w : Nat → Int32} (h : cTab cw cv ce cs z) (f : frP z w) : cTab cw cv ce cs w := by
  obtain ⟨h1, h2, h3, h4⟩ := h
  exact ⟨by rw [f 10 (by omega)]; exact h1, fun k hk => by rw [f _ (by omega)]; exact h2 k hk, fun k hk => by rw [f _ (by omega)]; exact h3 k hk, fun k hk => by rw [f _ (by omega)]; exact h4 k hk⟩
theorem frP.zon {zc : Int32} {zf z w : Nat → Int32} (h : cZon zc zf z) (f : frP z w) : cZon zc zf w := by
  obtain ⟨h1, h2⟩ := h
  exact ⟨by rw [f 18 (by omega)]; exact h1, fun k hk => by rw [f _ (by omega)]; exact h2 k hk⟩
theorem frP.carry {z w : Nat → Int32} (f : frP z w) (mo : Int32) : frP z (m_carry w mo) := fun q hq => by rw [carry_hi w mo (by omega)]; exact f q hq
theorem frP.log {z w : Nat → Int32} (f : frP z w) (hG : mG w) (kd vl : Int32) : frP z (m_log w kd vl) := fun q hq => by rw [log_o hG kd vl (by omega)]; exact f q hq
section MV
variable {z : Nat → Int32} {te0 cw zc yg mos by_ : Int32} {cv ce cs zf ys yl : Nat → Int32}
theorem X_step (hc : cTab cw cv ce cs z) (hz : cZon zc zf z) {w : Nat → Int32} (hG : mG w) (hf : frP z w) (R) (v : Int32) (k : Nat) (hk : k < 8) (go gc : Int32) (gt gk gv : Nat → Int32) :
    x_X8_tick_b52 (z 7) (z 11) te0 (z 6) (z 5) cw cv ce cs zc zf yg ys yl mos (z 8) by_ R v k (w 0) (w 1) (w 2) (w 3) (w 4) go gc gt gk gv =
      if mos &&& bitk k = 0 then R v (k + 1) (w 0) (w 1) (w 2) (w 3) (w 4) go gc gt gk gv
      else if perM w (nI k) = 0 then (if z 11 &&& (mos &&& bitk k) = 0 then R (v ||| (mos &&& bitk k)) (k + 1) (w 0) (w 1) (w 2) (w 3) (w 4) (x_X3_add go gc gt gk gv (z 8) 0 (nI k)).1 (x_X3_add go gc gt gk gv (z 8) 0 (nI k)).2.1 (x_X3_add go gc gt gk gv (z 8) 0 (nI k)).2.2.1 (x_X3_add go gc gt gk gv (z 8) 0 (nI k)).2.2.2.1 (x_X3_add go gc gt gk gv (z 8) 0 (nI k)).2.2.2.2 else R (v ||| (mos &&& bitk k)) (k + 1) (w 0) (w 1) (w 2) (w 3) (w 4) go gc gt gk gv)
      else R v (k + 1) (m_carry w (nI k) 0) (m_carry w (nI k) 1) (m_carry w (nI k) 2) (m_carry w (nI k) 3) (m_carry w (nI k) 4) go gc gt gk gv := by
  have ek := nI_toInt (n := k) (by omega)
  have e7 := hf 7 (by omega)
  have e6 := hf 6 (by omega)
  have e5 := hf 5 (by omega)
  have ep := q_permitted (hf.tab hc) (hf.zon hz) hG (mo := nI k) (by omega) (by omega)
  rw [e7, e6, e5] at ep
  have em := q_move w hG (mo := nI k) (by omega) (by omega)
  rw [e7, e6] at em
  unfold x_X8_tick_b52 x_X8_tick_j141
  simp only [spLet_x, ep, em, bv]
  rw [if_neg (by omega)]
  rfl
theorem M_step (w : Nat → Int32) (R) (v : Int32) (k : Nat) (hk : k < 8) (mm mr : Int32) (zp : Nat → Int32) :
    ∃ mm' mr' zp', m_move_b4 mos R v k mm mr w zp =
      if (mos >>> ((nI k) &&& 31)) &&& 1 = 1 then (if perM w (nI k) = 0 then (if ((w 11) >>> ((nI k) &&& 31)) &&& 1 = 0 then R (v ||| bitk k) (k + 1) mm' mr' (m_log w 0 (nI k)) zp' else R (v ||| bitk k) (k + 1) mm' mr' w zp') else R v (k + 1) mm' mr' (m_carry w (nI k)) zp')
      else R v (k + 1) mm mr w zp := by
  refine ⟨(m_isPermitted mm mr w zp (nI k)).2.1, (m_isPermitted mm mr w zp (nI k)).2.2.1, (m_isPermitted mm mr w zp (nI k)).2.2.2, ?_⟩
  unfold m_move_b4 m_move_j61
  simp only [spLet_x, per_m]
  rw [if_neg (by omega)]
  rfl
/-- a byte's worth of motions -/
def byt (x : Int32) : Prop := x = nI x.toNatClampNeg ∧ x.toNatClampNeg < 256
theorem byt.bit {x : Int32} (h : byt x) {k : Nat} (hk : k < 8) : ((x &&& bitk k = 0) ↔ ¬ ((x >>> ((nI k) &&& 31)) &&& 1 = 1)) ∧ (x &&& bitk k = 0 ∨ x &&& bitk k = bitk k) ∧ ((x &&& bitk k = 0) ↔ ((x >>> ((nI k) &&& 31)) &&& 1 = 0)) ∧ byt (x ||| bitk k) := by
  obtain ⟨h1, h2⟩ := h
  obtain ⟨a1, a2, a3⟩ := bit_d1 _ h2 k hk
  have a4 := bit_d2 _ h2 k hk
  rw [← h1] at a1 a2 a3 a4
  exact ⟨⟨fun h k => by rw [decide_eq_true h, decide_eq_true k] at a1; exact absurd a1 (by decide), fun h => by rw [decide_eq_false h] at a1; exact of_decide_eq_true a1⟩, a2, decide_eq_decide.mp a3, a4⟩
theorem mv_loop (hc : cTab cw cv ce cs z) (hz : cZon zc zf z) (hm : byt mos) (hh : byt (z 11)) :
    ∀ (n k : Nat) (v mm mr : Int32) (w zp : Nat → Int32) (go gc : Int32) (gt gk gv : Nat → Int32), k ≤ 8 → 8 < k + n → mG w → frP z w → byt v → logR go gc gt gk gv w →
      ∃ go' gc' gt' gk' gv',
        spIter (fun _ _ _ _ _ _ _ _ _ _ _ _ => default) (x_X8_tick_b52 (z 7) (z 11) te0 (z 6) (z 5) cw cv ce cs zc zf yg ys yl mos (z 8) by_) n v k (w 0) (w 1) (w 2) (w 3) (w 4) go gc gt gk gv = x_X8_tick_b52 (z 7) (z 11) te0 (z 6) (z 5) cw cv ce cs zc zf yg ys yl mos (z 8) by_ (fun _ _ _ _ _ _ _ _ _ _ _ _ => default) (spIter (fun _ _ _ _ _ _ => default) (m_move_b4 mos) n v k mm mr w zp).1 8 ((spIter (fun _ _ _ _ _ _ => default) (m_move_b4 mos) n v k mm mr w zp).2.2.2.1 0) ((spIter (fun _ _ _ _ _ _ => default) (m_move_b4 mos) n v k mm mr w zp).2.2.2.1 1) ((spIter (fun _ _ _ _ _ _ => default) (m_move_b4 mos) n v k mm mr w zp).2.2.2.1 2) ((spIter (fun _ _ _ _ _ _ => default) (m_move_b4 mos) n v k mm mr w zp).2.2.2.1 3) ((spIter (fun _ _ _ _ _ _ => default) (m_move_b4 mos) n v k mm mr w zp).2.2.2.1 4) go' gc' gt' gk' gv'
        ∧ logR go' gc' gt' gk' gv' (spIter (fun _ _ _ _ _ _ => default) (m_move_b4 mos) n v k mm mr w zp).2.2.2.1 ∧ frP z (spIter (fun _ _ _ _ _ _ => default) (m_move_b4 mos) n v k mm mr w zp).2.2.2.1 ∧ mG (spIter (fun _ _ _ _ _ _ => default) (m_move_b4 mos) n v k mm mr w zp).2.2.2.1 ∧ byt (spIter (fun _ _ _ _ _ _ => default) (m_move_b4 mos) n v k mm mr w zp).1 := by
  intro n
  induction n with
  | zero => intro k v mm mr w zp go gc gt gk gv h1 h2; omega
  | succ n ih =>
    intro k v mm mr w zp go gc gt gk gv h1 h2 hG hf hv hl
    show ∃ go' gc' gt' gk' gv', x_X8_tick_b52 (z 7) (z 11) te0 (z 6) (z 5) cw cv ce cs zc zf yg ys yl mos (z 8) by_ (spIter (fun _ _ _ _ _ _ _ _ _ _ _ _ => default) (x_X8_tick_b52 (z 7) (z 11) te0 (z 6) (z 5) cw cv ce cs zc zf yg ys yl mos (z 8) by_) n) v k (w 0) (w 1) (w 2) (w 3) (w 4) go gc gt gk gv = x_X8_tick_b52 (z 7) (z 11) te0 (z 6) (z 5) cw cv ce cs zc zf yg ys yl mos (z 8) by_ (fun _ _ _ _ _ _ _ _ _ _ _ _ => default) (m_move_b4 mos (spIter (fun _ _ _ _ _ _ => default) (m_move_b4 mos) n) v k mm mr w zp).1 8 ((m_move_b4 mos (spIter (fun _ _ _ _ _ _ => default) (m_move_b4 mos) n) v k mm mr w zp).2.2.2.1 0) ((m_move_b4 mos (spIter (fun _ _ _ _ _ _ => default) (m_move_b4 mos) n) v k mm mr w zp).2.2.2.1 1) ((m_move_b4 mos (spIter (fun _ _ _ _ _ _ => default) (m_move_b4 mos) n) v k mm mr w zp).2.2.2.1 2) ((m_move_b4 mos (spIter (fun _ _ _ _ _ _ => default) (m_move_b4 mos) n) v k mm mr w zp).2.2.2.1 3) ((m_move_b4 mos (spIter (fun _ _ _ _ _ _ => default) (m_move_b4 mos) n) v k mm mr w zp).2.2.2.1 4) go' gc' gt' gk' gv'
        ∧ logR go' gc' gt' gk' gv' (m_move_b4 mos (spIter (fun _ _ _ _ _ _ => default) (m_move_b4 mos) n) v k mm mr w zp).2.2.2.1 ∧ frP z (m_move_b4 mos (spIter (fun _ _ _ _ _ _ => default) (m_move_b4 mos) n) v k mm mr w zp).2.2.2.1 ∧ mG (m_move_b4 mos (spIter (fun _ _ _ _ _ _ => default) (m_move_b4 mos) n) v k mm mr w zp).2.2.2.1 ∧ byt (m_move_b4 mos (spIter (fun _ _ _ _ _ _ => default) (m_move_b4 mos) n) v k mm mr w zp).1
    generalize spIter (fun _ _ _ _ _ _ _ _ _ _ _ _ => default) (x_X8_tick_b52 (z 7) (z 11) te0 (z 6) (z 5) cw cv ce cs zc zf yg ys yl mos (z 8) by_) n = RX at ih ⊢
    generalize spIter (fun _ _ _ _ _ _ => default) (m_move_b4 mos) n = RM at ih ⊢
    by_cases hk : k < 8
    · obtain ⟨b1, b2, -, -⟩ := hm.bit hk
      obtain ⟨-, -, b3, -⟩ := hh.bit hk
      obtain ⟨-, -, -, b4⟩ := hv.bit hk
      have e8 := hf 8 (by omega)
      have e11 := hf 11 (by omega)
      obtain ⟨mm', mr', zp', em⟩ := M_step (mos := mos) w RM v k hk mm mr zp
      rw [X_step hc hz hG hf RX v k hk go gc gt gk gv, em]
      by_cases c : mos &&& bitk k = 0
      · rw [if_pos c, if_neg (b1.mp c)]
        exact ih (k + 1) v mm mr w zp go gc gt gk gv (by omega) (by omega) hG hf hv hl
      · have c2 : mos &&& bitk k = bitk k := b2.resolve_left c
        rw [if_neg c, if_pos (Decidable.not_not.mp (mt b1.mpr c)), c2]
        by_cases d : perM w (nI k) = 0
        · rw [if_pos d, if_pos d]
          by_cases f : z 11 &&& bitk k = 0
          · have f2 := b3.mp f
            rw [← e11] at f2
            rw [if_pos f, if_pos f2]
            have a := q_add hl 0 (nI k)
            rw [e8] at a
            exact ih (k + 1) (v ||| bitk k) mm' mr' (m_log w 0 (nI k)) zp' _ _ _ _ _ (by omega) (by omega) (log_G hG _ _) (hf.log hG _ _) b4 a |> fun h => by
              rw [log_o hG 0 (nI k) (q := 0) (by omega), log_o hG 0 (nI k) (q := 1) (by omega), log_o hG 0 (nI k) (q := 2) (by omega), log_o hG 0 (nI k) (q := 3) (by omega), log_o hG 0 (nI k) (q := 4) (by omega)] at h
              exact h
          · have f2 := mt b3.mpr f
            rw [← e11] at f2
            rw [if_neg f, if_neg f2]
            exact ih (k + 1) (v ||| bitk k) mm' mr' w zp' go gc gt gk gv (by omega) (by omega) hG hf b4 hl
        · rw [if_neg d, if_neg d]
          exact ih (k + 1) v mm' mr' (m_carry w (nI k)) zp' go gc gt gk gv (by omega) (by omega) (carry_G hG _) (hf.carry _) hv (logR_u hl fun q h1 h2 => carry_hi w _ (by omega))
    · have e9 : k = 8 := by omega
      subst e9
      have em : m_move_b4 mos RM v 8 mm mr w zp = (v, mm, mr, w, zp) := by unfold m_move_b4; rw [if_pos (by decide)]
      rw [em]
      refine ⟨go, gc, gt, gk, gv, ?_, hl, hf, hG, hv⟩
      unfold x_X8_tick_b52
      simp only [if_pos (show 8 ≤ 8 by decide)]
end MV

/-! both sides: a whole tick -/
theorem j41_o {f : Nat → Int32} (hG : mG f) (u : Int32) {q : Nat} (hq : q < 12 ∨ (13 < q ∧ q < 143) ∨ (234 ≤ q ∧ q < 238)) : m_follow_j41 u f q = f q := by
  unfold m_follow_j41
  simp only [spLet_x]
  split
  · split
    · have gG : mG (upd f 13 (m_greater (f 13) u)) := mG.upd hG fun _ => fol13 hG u
      obtain ⟨i1, i2⟩ := fol_its gG
      rw [log_o (mG.upd (mG.upd (mG.upd gG fun _ => ⟨by decide, by decide⟩) fun _ => ⟨by decide, by decide⟩) fun _ => mfree (by omega) _) _ _ (by omega), upd_o _ _ _ (by omega), upd_o _ _ _ (by omega), upd_o _ _ _ (by omega), upd_o _ _ _ (by omega)]
    · rw [upd_o _ _ _ (by omega)]
  · rfl
theorem follow_o {f : Nat → Int32} (hG : mG f) (tb u : Int32) {q : Nat} (hq : q < 12 ∨ (13 < q ∧ q < 143) ∨ (234 ≤ q ∧ q < 238)) : m_follow f tb u q = f q := by
  unfold m_follow
  simp only [spLet_x]
  split
  · exact j41_o hG u hq
  · split
    · split
      · rw [j41_o (mG.upd (mG.upd hG fun _ => ⟨by decide, by decide⟩) fun _ => ⟨by decide, by decide⟩) u hq, upd_o _ _ _ (by omega), upd_o _ _ _ (by omega)]
      · exact j41_o hG u hq
    · exact j41_o hG u hq
/-- the counts of lifts are small -/
def bnd (n : Nat) (z : Nat → Int32) : Prop := ∀ k, k < 8 → 0 ≤ (z (238 + k)).toInt ∧ (z (238 + k)).toInt ≤ n
theorem bnd.o' {m n : Nat} {z : Nat → Int32} (h : bnd m z) (hm : m ≤ n) : bnd n z := fun k hk => ⟨(h k hk).1, by have := (h k hk).2; omega⟩
theorem bnd.log {n : Nat} {z : Nat → Int32} (h : bnd n z) (hG : mG z) (kd vl : Int32) : bnd n (m_log z kd vl) := fun k hk => by rw [log_o hG kd vl (by omega)]; exact h k hk
theorem bnd.o {n : Nat} {z : Nat → Int32} (h : bnd n z) {w : Nat → Int32} (e : ∀ q, 238 ≤ q ∧ q < 246 → w q = z q) : bnd n w := fun k hk => by rw [e _ (by omega)]; exact h k hk
theorem bnd.inc {n : Nat} {z : Nat → Int32} (h : bnd n z) (hn : n < 2000000000) {j : Nat} (hj : j < 8) : bnd (n + 1) (upd z (238 + j) (z (238 + j) + 1)) := fun k hk => by
  have b := h j hj
  by_cases e : k = j
  · rw [e, upd_s, zadd rfl l_1 (by omega) (by omega)]
    omega
  · rw [upd_o _ _ _ (by omega)]
    have := h k hk
    omega
theorem j41_b {n : Nat} {f : Nat → Int32} (h : bnd n f) (hG : mG f) (hn : n < 2000000000) (u : Int32) : bnd (n + 1) (m_follow_j41 u f) := by
  unfold m_follow_j41
  simp only [spLet_x]
  have h1 : bnd (n + 1) f := fun k hk => ⟨(h k hk).1, by have := (h k hk).2; omega⟩
  split
  · split
    · have gG : mG (upd f 13 (m_greater (f 13) u)) := mG.upd hG fun _ => fol13 hG u
      obtain ⟨i1, i2⟩ := fol_its gG
      refine bnd.log (bnd.inc (bnd.o h fun q hq => ?_) hn i2) (mG.upd (mG.upd (mG.upd gG fun _ => ⟨by decide, by decide⟩) fun _ => ⟨by decide, by decide⟩) fun _ => mfree (by omega) _) _ _
      rw [upd_o _ _ _ (by omega), upd_o _ _ _ (by omega), upd_o _ _ _ (by omega)]
    · exact h1.o fun q hq => upd_o _ _ _ (by omega)
  · exact h1
theorem follow_b {n : Nat} {f : Nat → Int32} (h : bnd n f) (hG : mG f) (hn : n < 2000000000) (tb u : Int32) : bnd (n + 1) (m_follow f tb u) := by
  unfold m_follow
  simp only [spLet_x]
  split
  · exact j41_b h hG hn u
  · split
    · split
      · exact j41_b (h.o fun q hq => by rw [upd_o _ _ _ (by omega), upd_o _ _ _ (by omega)]) (mG.upd (mG.upd hG fun _ => ⟨by decide, by decide⟩) fun _ => ⟨by decide, by decide⟩) hn u
      · exact j41_b h hG hn u
    · exact j41_b h hG hn u
/-- a tick's start -/
def tk0 (z : Nat → Int32) : Nat → Int32 := upd (upd z 8 (z 8 + 1)) 9 (m_greater 0 (z 9 - 1))
def tk1 (mm mr : Int32) (z zp : Nat → Int32) (mos : Int32) : Nat → Int32 := upd (m_move mm mr (tk0 z) zp mos).2.2.2.1 11 (m_move mm mr (tk0 z) zp mos).1
theorem j124_e (a x c r p q : Int32) (w zp : Nat → Int32) : (m_tick_j124 a x c r p q w zp).1 = (if x = 0 then 1 else 0) ∧ (m_tick_j124 a x c r p q w zp).2.2.2.1 = m_follow (upd w (234 + r.toNatClampNeg) (w (234 + r.toNatClampNeg) + 1)) a c := by
  unfold m_tick_j124
  simp only [spLet_x]
  split <;> exact ⟨rfl, rfl⟩
theorem tick_e (mm mr : Int32) (z zp : Nat → Int32) (mos : Int32) :
    (m_tick mm mr z zp mos).1 = (if (m_move mm mr (tk0 z) zp mos).1 = 0 then 1 else 0) ∧
    (m_tick mm mr z zp mos).2.2.2.1 = m_follow (upd (eS (tk1 mm mr z zp mos) (m_nextState (tk1 mm mr z zp mos) (uPre (tk1 mm mr z zp mos))) (uPre (tk1 mm mr z zp mos))) (234 + (m_nextState (tk1 mm mr z zp mos) (uPre (tk1 mm mr z zp mos))).toNatClampNeg) (eS (tk1 mm mr z zp mos) (m_nextState (tk1 mm mr z zp mos) (uPre (tk1 mm mr z zp mos))) (uPre (tk1 mm mr z zp mos)) (234 + (m_nextState (tk1 mm mr z zp mos) (uPre (tk1 mm mr z zp mos))).toNatClampNeg) + 1)) (z 4) (uPre (tk1 mm mr z zp mos)) := by
  have z1 : ¬ ((1 : Int32) = 0) := by decide
  have e9 : upd z 8 (z 8 + 1) 9 = z 9 := upd_o _ _ _ (by decide)
  unfold m_tick m_tick_j83 m_tick_j106
  simp only [spLet_x, e9, util_mr]
  rw [show upd (upd z 8 (z 8 + 1)) 9 (m_greater 0 (z 9 - 1)) = tk0 z from rfl]
  rw [show upd (m_move mm mr (tk0 z) zp mos).2.2.2.1 11 (m_move mm mr (tk0 z) zp mos).1 = tk1 mm mr z zp mos from rfl]
  rw [show m_utilizationAt (mMas (tk1 mm mr z zp mos)) (mRad (tk1 mm mr z zp mos)) (tk1 mm mr z zp mos) (tk1 mm mr z zp mos 2) = uPre (tk1 mm mr z zp mos) from rfl]
  generalize m_move mm mr (tk0 z) zp mos = P
  generalize tk1 mm mr z zp mos = f
  generalize uPre f = u
  generalize m_nextState f u = r
  unfold eS
  by_cases c : r = f 7
  · simp only [if_pos c, if_true]
    exact j124_e ..
  · simp only [if_neg c, if_neg z1]
    by_cases d : r.toNatClampNeg = 2
    · simp only [if_pos d]
      exact j124_e ..
    · simp only [if_neg d]
      exact j124_e ..
/-- what a class's state and the cells have in common, but for the numbers that are cells themselves -/
def relZ (cw zc go gc yg : Int32) (cv ce cs zf gt gk gv ys yl z : Nat → Int32) : Prop := cTab cw cv ce cs z ∧ cZon zc zf z ∧ logR go gc gt gk gv z ∧ lifR yg ys yl z ∧ mG z ∧ byt (z 11)
theorem lifR_u {yg : Int32} {ys yl z w : Nat → Int32} (h : lifR yg ys yl z) (f : frP z w) : lifR yg ys yl w := by
  obtain ⟨h1, h2, h3⟩ := h
  exact ⟨by rw [f 12 (by omega), f 13 (by omega)]; exact h1, fun k hk => by rw [f _ (by omega)]; exact h2 k hk, fun k hk => by rw [f _ (by omega)]; exact h3 k hk⟩
theorem q_tick {cw zc go gc yg mos : Int32} {cv ce cs zf gt gk gv ys yl z : Nat → Int32} (h : relZ cw zc go gc yg cv ce cs zf gt gk gv ys yl z) (hm : byt mos) (mm mr : Int32) (zp : Nat → Int32) :
    ∃ go' gc' gt' gk' gv' yg' ys' yl', x_X8_tick (z 7) (z 8) (z 9) (z 11) (z 0) (z 1) (z 2) (z 3) (z 4) (z 6) (z 5) cw cv ce cs zc zf go gc gt gk gv yg ys yl mos = ((m_tick mm mr z zp mos).1, (m_tick mm mr z zp mos).2.2.2.1 7, (m_tick mm mr z zp mos).2.2.2.1 8, (m_tick mm mr z zp mos).2.2.2.1 9, (m_tick mm mr z zp mos).2.2.2.1 11, (m_tick mm mr z zp mos).2.2.2.1 0, (m_tick mm mr z zp mos).2.2.2.1 1, (m_tick mm mr z zp mos).2.2.2.1 2, (m_tick mm mr z zp mos).2.2.2.1 3, (m_tick mm mr z zp mos).2.2.2.1 4, go', gc', gt', gk', gv', yg', ys', yl') ∧ relZ cw zc go' gc' yg' cv ce cs zf gt' gk' gv' ys' yl' (m_tick mm mr z zp mos).2.2.2.1 ∧ ((m_tick mm mr z zp mos).2.2.2.1 5 = z 5 ∧ (m_tick mm mr z zp mos).2.2.2.1 6 = z 6) ∧ ∀ n, n < 2000000000 → bnd n z → bnd (n + 1) (m_tick mm mr z zp mos).2.2.2.1 := by
  obtain ⟨hc, hz, hL, hT, hG, hb⟩ := h
  have z1 : ¬ ((1 : Int32) = 0) := by decide
  obtain ⟨te1, te2⟩ := tick_e mm mr z zp mos
  have h9 := hG.c9
  -- the start
  have o0 : ∀ q, ¬ q = 8 → ¬ q = 9 → tk0 z q = z q := fun q h1 h2 => by unfold tk0; rw [upd_o _ _ _ h2, upd_o _ _ _ h1]
  have e8 : tk0 z 8 = z 8 + 1 := by unfold tk0; rw [upd_o _ _ _ (by decide), upd_s]
  have e9 : tk0 z 9 = m_greater 0 (z 9 - 1) := by unfold tk0; rw [upd_s]
  have G0 : mG (tk0 z) := mG.upd (mG.upd hG fun _ => mfree8 _) fun _ => tick9 hG
  have c0 : cTab cw cv ce cs (tk0 z) := by
    obtain ⟨a1, a2, a3, a4⟩ := hc
    exact ⟨by rw [o0 10 (by omega) (by omega)]; exact a1, fun k hk => by rw [o0 _ (by omega) (by omega)]; exact a2 k hk, fun k hk => by rw [o0 _ (by omega) (by omega)]; exact a3 k hk, fun k hk => by rw [o0 _ (by omega) (by omega)]; exact a4 k hk⟩
  have z0 : cZon zc zf (tk0 z) := by
    obtain ⟨a1, a2⟩ := hz
    exact ⟨by rw [o0 18 (by omega) (by omega)]; exact a1, fun k hk => by rw [o0 _ (by omega) (by omega)]; exact a2 k hk⟩
  have L0 : logR go gc gt gk gv (tk0 z) := logR_u hL fun q h1 h2 => o0 q (by omega) (by omega)
  have T0 : lifR yg ys yl (tk0 z) := by
    obtain ⟨a1, a2, a3⟩ := hT
    exact ⟨by rw [o0 12 (by omega) (by omega), o0 13 (by omega) (by omega)]; exact a1, fun k hk => by rw [o0 _ (by omega) (by omega)]; exact a2 k hk, fun k hk => by rw [o0 _ (by omega) (by omega)]; exact a3 k hk⟩
  have b0 : byt (tk0 z 11) := by rw [o0 11 (by omega) (by omega)]; exact hb
  have hx : x_X8_tick (z 7) (z 8) (z 9) (z 11) (z 0) (z 1) (z 2) (z 3) (z 4) (z 6) (z 5) cw cv ce cs zc zf go gc gt gk gv yg ys yl mos = spIter (fun _ _ _ _ _ _ _ _ _ _ _ _ => default) (x_X8_tick_b52 (tk0 z 7) (tk0 z 11) (z 4) (tk0 z 6) (tk0 z 5) cw cv ce cs zc zf yg ys yl mos (tk0 z 8) (tk0 z 9)) 9 0 0 (tk0 z 0) (tk0 z 1) (tk0 z 2) (tk0 z 3) (tk0 z 4) go gc gt gk gv := by
    rw [o0 7 (by omega) (by omega), o0 11 (by omega) (by omega), o0 6 (by omega) (by omega), o0 5 (by omega) (by omega), o0 0 (by omega) (by omega), o0 1 (by omega) (by omega), o0 2 (by omega) (by omega), o0 3 (by omega) (by omega), o0 4 (by omega) (by omega), e8, e9]
    unfold x_X8_tick x_X8_tick_j47
    simp only [spLet_x]
    by_cases c : z 9 ≤ 0
    · have c2 : (z 9).toInt = 0 := by have := (le_i l_0).mp c; omega
      have c3 : z 9 = 0 := Int32.toInt_inj.mp (by rw [c2, l_0])
      have e : m_greater 0 (z 9 - 1) = z 9 := by rw [c3]; decide
      rw [if_pos c, e]
    · have c2 : ¬ (z 9).toInt ≤ 0 := fun k => c ((le_i l_0).mpr k)
      have e : m_greater 0 (z 9 - 1) = z 9 - 1 := by
        apply Int32.toInt_inj.mp
        rw [greater_r, zsub rfl l_1 (by omega) (by omega), l_0]
        omega
      rw [if_neg c, e]
  obtain ⟨go1, gc1, gt1, gk1, gv1, em, L1, f1, G1, v1⟩ := mv_loop (te0 := z 4) (yg := yg) (ys := ys) (yl := yl) (by_ := tk0 z 9) c0 z0 hm b0 9 0 0 mm mr (tk0 z) zp go gc gt gk gv (by omega) (by omega) G0 (fun q hq => rfl) ⟨rfl, by decide⟩ L0
  rw [show spIter (fun _ _ _ _ _ _ => default) (m_move_b4 mos) 9 0 0 mm mr (tk0 z) zp = m_move mm mr (tk0 z) zp mos from rfl] at em L1 f1 G1 v1
  rw [hx, em, te1, te2]
  have hk : tk1 mm mr z zp mos = upd (m_move mm mr (tk0 z) zp mos).2.2.2.1 11 (m_move mm mr (tk0 z) zp mos).1 := rfl
  rw [hk]
  generalize (m_move mm mr (tk0 z) zp mos).2.2.2.1 = w at L1 f1 G1
  generalize (m_move mm mr (tk0 z) zp mos).1 = v at v1
  have o1 : ∀ q, ¬ q = 11 → upd w 11 v q = w q := fun q h1 => upd_o _ _ _ h1
  have e11 : upd w 11 v 11 = v := upd_s _ _ _
  have Gf : mG (upd w 11 v) := mG.upd G1 fun _ => mfree11 _
  have cf : cTab cw cv ce cs (upd w 11 v) := by
    obtain ⟨a1, a2, a3, a4⟩ := f1.tab c0
    exact ⟨by rw [o1 10 (by omega)]; exact a1, fun k hk => by rw [o1 _ (by omega)]; exact a2 k hk, fun k hk => by rw [o1 _ (by omega)]; exact a3 k hk, fun k hk => by rw [o1 _ (by omega)]; exact a4 k hk⟩
  have zf' : cZon zc zf (upd w 11 v) := by
    obtain ⟨a1, a2⟩ := f1.zon z0
    exact ⟨by rw [o1 18 (by omega)]; exact a1, fun k hk => by rw [o1 _ (by omega)]; exact a2 k hk⟩
  have Lf : logR go1 gc1 gt1 gk1 gv1 (upd w 11 v) := logR_u L1 fun q h1 h2 => o1 q (by omega)
  have Tf : lifR yg ys yl (upd w 11 v) := by
    obtain ⟨a1, a2, a3⟩ := lifR_u T0 f1
    exact ⟨by rw [o1 12 (by omega), o1 13 (by omega)]; exact a1, fun k hk => by rw [o1 _ (by omega)]; exact a2 k hk, fun k hk => by rw [o1 _ (by omega)]; exact a3 k hk⟩
  have q7 : upd w 11 v 7 = tk0 z 7 := by rw [o1 7 (by omega), f1 7 (by omega)]
  have q8 : upd w 11 v 8 = tk0 z 8 := by rw [o1 8 (by omega), f1 8 (by omega)]
  have q9 : upd w 11 v 9 = tk0 z 9 := by rw [o1 9 (by omega), f1 9 (by omega)]
  have q5 : upd w 11 v 5 = tk0 z 5 := by rw [o1 5 (by omega), f1 5 (by omega)]
  have q6 : upd w 11 v 6 = tk0 z 6 := by rw [o1 6 (by omega), f1 6 (by omega)]
  have p5 : upd w 11 v 5 = z 5 := by rw [q5, o0 5 (by omega) (by omega)]
  have p6 : upd w 11 v 6 = z 6 := by rw [q6, o0 6 (by omega) (by omega)]
  have pb : ∀ q, 238 ≤ q ∧ q < 246 → upd w 11 v q = z q := fun q hq => by rw [o1 q (by omega), f1 q (by omega), o0 q (by omega) (by omega)]
  rw [← o1 0 (by omega), ← o1 1 (by omega), ← o1 2 (by omega), ← o1 3 (by omega), ← o1 4 (by omega), ← q7, ← q8, ← q9, ← q5, ← q6]
  generalize upd w 11 v = f at *
  have sl := Gf.c2
  have eu : x_X8_utilizationAtN (f 0) (f 1) (f 4) (f 6) (f 5) cw cv ce cs (f 2) = uPre f := q_utilN cf Gf sl.1 (by omega)
  obtain ⟨r1, r2⟩ := nextState_n f (uPre f)
  have en := q_next f (uPre f)
  obtain ⟨go2, gc2, gt2, gk2, gv2, ee, L2⟩ := q_enter Lf Gf (uPre f) r1 r2
  have G2 := eS_G Gf (uPre f) r1 r2
  have o2 : ∀ q, (q < 143 ∨ 234 ≤ q) → ¬ q = 7 → eS f (m_nextState f (uPre f)) (uPre f) q = f q := fun q h1 h2 => by rw [eS_o Gf (uPre f) r1 r2 h1, upd_o _ _ _ h2]
  have o27 : eS f (m_nextState f (uPre f)) (uPre f) 7 = m_nextState f (uPre f) := by rw [eS_o Gf (uPre f) r1 r2 (by omega), upd_s]
  have T2 : lifR yg ys yl (eS f (m_nextState f (uPre f)) (uPre f)) := by
    obtain ⟨a1, a2, a3⟩ := Tf
    exact ⟨by rw [o2 12 (by omega) (by omega), o2 13 (by omega) (by omega)]; exact a1, fun k hk => by rw [o2 _ (by omega) (by omega)]; exact a2 k hk, fun k hk => by rw [o2 _ (by omega) (by omega)]; exact a3 k hk⟩
  obtain ⟨go3, gc3, gt3, gk3, gv3, yg3, ys3, yl3, ec, L3, T3⟩ := q_count L2 G2 T2 r1 r2 (z 4) (uPre f)
  rw [o2 8 (by omega) (by omega), o2 4 (by omega) (by omega)] at ec
  have Gu : mG (upd (eS f (m_nextState f (uPre f)) (uPre f)) (234 + (m_nextState f (uPre f)).toNatClampNeg) (eS f (m_nextState f (uPre f)) (uPre f) (234 + (m_nextState f (uPre f)).toNatClampNeg) + 1)) := mG.upd G2 fun _ => mfree (by omega) _
  have G3 := follow_G Gu (z 4) (uPre f)
  have o3 : ∀ q, (q < 12 ∨ (13 < q ∧ q < 143)) → ¬ q = 7 → m_follow (upd (eS f (m_nextState f (uPre f)) (uPre f)) (234 + (m_nextState f (uPre f)).toNatClampNeg) (eS f (m_nextState f (uPre f)) (uPre f) (234 + (m_nextState f (uPre f)).toNatClampNeg) + 1)) (z 4) (uPre f) q = f q := fun q h1 h2 => by
    rw [follow_o Gu _ _ (by omega), upd_o _ _ _ (by omega), o2 q (by omega) h2]
  have o37 : m_follow (upd (eS f (m_nextState f (uPre f)) (uPre f)) (234 + (m_nextState f (uPre f)).toNatClampNeg) (eS f (m_nextState f (uPre f)) (uPre f) (234 + (m_nextState f (uPre f)).toNatClampNeg) + 1)) (z 4) (uPre f) 7 = m_nextState f (uPre f) := by
    rw [follow_o Gu _ _ (by omega), upd_o _ _ _ (by omega), o27]
  have hB : ∀ n, n < 2000000000 → bnd n z → bnd (n + 1) (m_follow (upd (eS f (m_nextState f (uPre f)) (uPre f)) (234 + (m_nextState f (uPre f)).toNatClampNeg) (eS f (m_nextState f (uPre f)) (uPre f) (234 + (m_nextState f (uPre f)).toNatClampNeg) + 1)) (z 4) (uPre f)) := fun n hn hb => follow_b (hb.o fun q hq => by rw [upd_o _ _ _ (by omega), o2 q (by omega) (by omega), pb q hq]) Gu hn _ _
  generalize m_follow (upd (eS f (m_nextState f (uPre f)) (uPre f)) (234 + (m_nextState f (uPre f)).toNatClampNeg) (eS f (m_nextState f (uPre f)) (uPre f) (234 + (m_nextState f (uPre f)).toNatClampNeg) + 1)) (z 4) (uPre f) = W at L3 T3 G3 o3 o37 hB ⊢
  refine ⟨go3, gc3, gt3, gk3, gv3, yg3, ys3, yl3, ?_, ⟨?_, ?_, L3, T3, G3, ?_⟩, ⟨by rw [o3 5 (by omega) (by omega), p5], by rw [o3 6 (by omega) (by omega), p6]⟩, hB⟩
  · rw [o37, o3 8 (by omega) (by omega), o3 9 (by omega) (by omega), o3 11 (by omega) (by omega), o3 0 (by omega) (by omega), o3 1 (by omega) (by omega), o3 2 (by omega) (by omega), o3 3 (by omega) (by omega), o3 4 (by omega) (by omega), e11]
    unfold x_X8_tick_b52
    simp only [if_pos (show 8 ≤ 8 by decide), spLet_x, eu, en, ee, ec]
    split <;> rfl
  · obtain ⟨a1, a2, a3, a4⟩ := cf
    exact ⟨by rw [o3 10 (by omega) (by omega)]; exact a1, fun k hk => by rw [o3 _ (by omega) (by omega)]; exact a2 k hk, fun k hk => by rw [o3 _ (by omega) (by omega)]; exact a3 k hk, fun k hk => by rw [o3 _ (by omega) (by omega)]; exact a4 k hk⟩
  · obtain ⟨a1, a2⟩ := zf'
    exact ⟨by rw [o3 18 (by omega) (by omega)]; exact a1, fun k hk => by rw [o3 _ (by omega) (by omega)]; exact a2 k hk⟩
  · rw [o3 11 (by omega) (by omega), e11]; exact v1

/-! both sides: what is kept for undo -/
def shv (w : Nat → Int32) (k : Nat) : Nat → Int32 := fun q => if k ≤ q ∧ q < 738 then w (q + 246) else w q
theorem shv_s (w : Nat → Int32) (k : Nat) (hk : k < 738) : shv (upd w k (w (k + 246))) (k + 1) = shv w k := by
  funext q
  unfold shv upd
  by_cases h : q = k
  · subst h
    rw [if_neg (by omega), if_pos rfl, if_pos (by omega)]
  · by_cases h2 : k + 1 ≤ q ∧ q < 738
    · rw [if_pos h2, if_neg (by omega), if_pos (by omega)]
    · rw [if_neg h2, if_neg h, if_neg (by omega)]
theorem keep_l1 (svc : Int32) (zs : Nat → Int32) : ∀ (n k : Nat) (w : Nat → Int32), k ≤ 738 → 738 < k + n → spIter (fun _ _ => default) (m_keep_b10 svc zs) n k w = m_keep_j49 zs (svc - 1) (shv w k) := by
  intro n
  induction n with
  | zero => intro k w h h1; omega
  | succ n ih =>
    intro k w h h1
    show m_keep_b10 svc zs (spIter (fun _ _ => default) (m_keep_b10 svc zs) n) k w = _
    generalize spIter (fun _ _ => default) (m_keep_b10 svc zs) n = R at ih ⊢
    unfold m_keep_b10
    simp only [spLet_x]
    by_cases c : 738 ≤ k
    · have e : shv w k = w := by
        funext q
        unfold shv
        rw [if_neg (by omega)]
      rw [if_pos c, e]
    · rw [if_neg c]
      have := ih (k + 1) (upd w k (w (k + 246))) (by omega) (by omega)
      rw [shv_s w k (by omega)] at this
      exact this
def cpv (zs w : Nat → Int32) (s k : Nat) : Nat → Int32 := fun q => if 246 * s + k ≤ q ∧ q < 246 * s + 246 then zs (q - 246 * s) else w q
theorem cpv_s (zs w : Nat → Int32) (s k : Nat) (hk : k < 246) : cpv zs (upd w (246 * s + k) (zs k)) s (k + 1) = cpv zs w s k := by
  funext q
  unfold cpv upd
  by_cases h : q = 246 * s + k
  · subst h
    rw [if_neg (by omega), if_pos rfl, if_pos (by omega)]
    exact congrArg _ (by omega)
  · by_cases h2 : 246 * s + (k + 1) ≤ q ∧ q < 246 * s + 246
    · rw [if_pos h2, if_pos (by omega)]
    · rw [if_neg h2, if_neg h, if_neg (by omega)]
theorem keep_l2 (zs : Nat → Int32) (sv : Int32) : ∀ (n k : Nat) (w : Nat → Int32), k ≤ 246 → 246 < k + n → spIter (fun _ _ => default) (m_keep_b51 zs sv) n k w = (nI (sv.toNatClampNeg + 1), cpv zs w sv.toNatClampNeg k) := by
  intro n
  induction n with
  | zero => intro k w h h1; omega
  | succ n ih =>
    intro k w h h1
    show m_keep_b51 zs sv (spIter (fun _ _ => default) (m_keep_b51 zs sv) n) k w = _
    generalize spIter (fun _ _ => default) (m_keep_b51 zs sv) n = R at ih ⊢
    unfold m_keep_b51
    simp only [spLet_x]
    by_cases c : 246 ≤ k
    · have e : cpv zs w sv.toNatClampNeg k = w := by
        funext q
        unfold cpv
        rw [if_neg (by omega)]
      rw [if_pos c, e]
    · rw [if_neg c]
      have := ih (k + 1) (upd w (246 * sv.toNatClampNeg + k) (zs k)) (by omega) (by omega)
      rw [cpv_s zs w _ k (by omega)] at this
      exact this
theorem keep_at {svc : Int32} {zs zv : Nat → Int32} {s : Nat} (hs : svc = nI s) (h4 : s ≤ 4) : (m_keep svc zs zv).1 = nI (if s = 4 then 4 else s + 1) ∧ (∀ q, q < 246 → (m_keep svc zs zv).2 (246 * (if s = 4 then 3 else s) + q) = zs q) ∧ ∀ q, q < 246 * (if s = 4 then 3 else s) → (m_keep svc zs zv).2 q = zv (if s = 4 then q + 246 else q) := by
  have e : svc.toNatClampNeg = s := by rw [hs, nI_clamp (by omega)]
  unfold m_keep
  rw [e]
  by_cases c : s = 4
  · simp only [if_pos c]
    have e3 : svc - 1 = nI 3 := by rw [hs, c]; rfl
    rw [keep_l1 svc zs 739 0 zv (by omega) (by omega), e3]
    unfold m_keep_j49
    rw [keep_l2 zs (nI 3) 247 0 _ (by omega) (by omega), nI_clamp (by omega)]
    refine ⟨rfl, fun q hq => ?_, fun q hq => ?_⟩
    · show cpv zs (shv zv 0) 3 0 (246 * 3 + q) = zs q
      unfold cpv
      rw [if_pos (by omega)]
      exact congrArg _ (by omega)
    · show cpv zs (shv zv 0) 3 0 q = zv (q + 246)
      unfold cpv shv
      rw [if_neg (by omega), if_pos (by omega)]
  · simp only [if_neg c]
    unfold m_keep_j49
    rw [keep_l2 zs svc 247 0 zv (by omega) (by omega), e]
    refine ⟨rfl, fun q hq => ?_, fun q hq => ?_⟩
    · show cpv zs zv s 0 (246 * s + q) = zs q
      unfold cpv
      rw [if_pos (by omega)]
      exact congrArg _ (by omega)
    · show cpv zs zv s 0 q = zv q
      unfold cpv
      rw [if_neg (by omega)]
/-- a class's state (its numbers and rows) and the cells -/
def relSt (iv : Nat → Int32) (av : Nat → Nat → Int32) (z : Nat → Int32) : Prop :=
  (iv 0 = z 7 ∧ iv 1 = z 8 ∧ iv 2 = z 9 ∧ iv 3 = z 11 ∧ iv 4 = z 0 ∧ iv 5 = z 1 ∧ iv 6 = z 2 ∧ iv 7 = z 3 ∧ iv 8 = z 4 ∧ iv 9 = z 6 ∧ iv 10 = z 5) ∧ relZ (iv 11) (iv 12) (iv 13) (iv 14) (iv 15) (av 0) (av 1) (av 2) (av 3) (av 4) (av 5) (av 6) (av 7) (av 8) z
theorem bnd.mono {m n : Nat} {z : Nat → Int32} (h : bnd m z) (hm : m ≤ n) : bnd n z := fun k hk => ⟨(h k hk).1, by have := (h k hk).2; omega⟩
/-- only the 246 cells count -/
theorem relZ.cong {cw zc go gc yg : Int32} {cv ce cs zf gt gk gv ys yl z w : Nat → Int32} (h : relZ cw zc go gc yg cv ce cs zf gt gk gv ys yl z) (e : ∀ q, q < 246 → w q = z q) : relZ cw zc go gc yg cv ce cs zf gt gk gv ys yl w := by
  obtain ⟨⟨a1, a2, a3, a4⟩, ⟨b1, b2⟩, ⟨o, c, c1, c2, c3, c4, c5, c6⟩, ⟨d1, d2, d3⟩, g, hb⟩ := h
  refine ⟨⟨by rw [e 10 (by omega)]; exact a1, fun k hk => by rw [e _ (by omega)]; exact a2 k hk, fun k hk => by rw [e _ (by omega)]; exact a3 k hk, fun k hk => by rw [e _ (by omega)]; exact a4 k hk⟩, ⟨by rw [e 18 (by omega)]; exact b1, fun k hk => by rw [e _ (by omega)]; exact b2 k hk⟩, ⟨o, c, c1, c2, c3, c4, by rw [e 143 (by omega)]; exact c5, fun i hi => ?_⟩, ⟨by rw [e 12 (by omega), e 13 (by omega)]; exact d1, fun k hk => by rw [e _ (by omega)]; exact d2 k hk, fun k hk => by rw [e _ (by omega)]; exact d3 k hk⟩, fun k hk => by rw [e k hk]; exact g k hk, by rw [e 11 (by omega)]; exact hb⟩
  rw [e _ (by omega), e _ (by omega), e _ (by omega)]
  exact c6 i hi
theorem relSt.cong {iv : Nat → Int32} {av : Nat → Nat → Int32} {z w : Nat → Int32} (h : relSt iv av z) (e : ∀ q, q < 246 → w q = z q) : relSt iv av w := by
  obtain ⟨⟨a0, a1, a2, a3, a4, a5, a6, a7, a8, a9, a10⟩, b⟩ := h
  exact ⟨⟨by rw [e 7 (by omega)]; exact a0, by rw [e 8 (by omega)]; exact a1, by rw [e 9 (by omega)]; exact a2, by rw [e 11 (by omega)]; exact a3, by rw [e 0 (by omega)]; exact a4, by rw [e 1 (by omega)]; exact a5, by rw [e 2 (by omega)]; exact a6, by rw [e 3 (by omega)]; exact a7, by rw [e 4 (by omega)]; exact a8, by rw [e 6 (by omega)]; exact a9, by rw [e 5 (by omega)]; exact a10⟩, b.cong e⟩
theorem bnd.cong {n : Nat} {z w : Nat → Int32} (h : bnd n z) (e : ∀ q, q < 246 → w q = z q) : bnd n w := fun k hk => by rw [e _ (by omega)]; exact h k hk
abbrev rowT : Type := (Nat → Nat) × (Nat → Int32) × (Nat → Nat → Int32)
/-- the class's ring of saved states and the reference's rows, the oldest first -/
def savR (svc svn : Int32) (ro : Nat → Option rowT) (svm : Int32) (zv : Nat → Int32) (n : Nat) : Prop :=
  ∃ s p : Nat, svc = nI s ∧ svm = nI s ∧ svn = nI p ∧ s ≤ 4 ∧ p < 4 ∧ ∀ j, j < s → ∃ a iv av, ro ((p + 4 - s + j) % 4) = some (a, iv, av) ∧ relSt iv av (fun q => zv (246 * j + q)) ∧ bnd n (fun q => zv (246 * j + q))
def rup (ro : Nat → Option rowT) (j : Nat) (r : rowT) : Nat → Option rowT := fun k => if k = j then some r else ro k
theorem save_n {svc svn : Int32} {s p : Nat} (hs : svc = nI s) (hp : svn = nI p) (h4 : s ≤ 4) (hp4 : p < 4) : x_X8_saveN svc svn = (nI (if s = 4 then 4 else s + 1), nI ((p + 1) % 4)) := by
  have hd : ∀ s, s ≤ 4 → ∀ p, p < 4 → x_X8_saveN (nI s) (nI p) = (nI (if s = 4 then 4 else s + 1), nI ((p + 1) % 4)) := by
    intro s hs p hp
    unfold x_X8_saveN
    simp only [spLet_x]
    rcases (show s = 0 ∨ s = 1 ∨ s = 2 ∨ s = 3 ∨ s = 4 by omega) with rfl | rfl | rfl | rfl | rfl <;> rcases (show p = 0 ∨ p = 1 ∨ p = 2 ∨ p = 3 by omega) with rfl | rfl | rfl | rfl <;> decide
  rw [hs, hp]
  exact hd s h4 p hp4
theorem q_save {svc svn svm : Int32} {ro : Nat → Option rowT} {zv z : Nat → Int32} {n : Nat} (h : savR svc svn ro svm zv n) {iv : Nat → Int32} {av : Nat → Nat → Int32} (hr : relSt iv av z) (hb : bnd n z) (a : Nat → Nat) :
    savR (x_X8_saveN svc svn).1 (x_X8_saveN svc svn).2 (rup ro svn.toNatClampNeg (a, iv, av)) (m_keep svm z zv).1 (m_keep svm z zv).2 n := by
  obtain ⟨s, p, e1, e2, e3, h4, hp4, hrows⟩ := h
  obtain ⟨k1, k2, k3⟩ := keep_at (zs := z) (zv := zv) e2 h4
  have ep : svn.toNatClampNeg = p := by rw [e3, nI_clamp (by omega)]
  rw [save_n e1 e3 h4 hp4, ep]
  by_cases c : s = 4
  · simp only [if_pos c] at k1 k2 k3 ⊢
    refine ⟨4, (p + 1) % 4, rfl, k1, rfl, by omega, by omega, fun j hj => ?_⟩
    by_cases hj3 : j = 3
    · refine ⟨a, iv, av, ?_, hr.cong fun q hq => by rw [hj3]; exact k2 q hq, hb.cong fun q hq => by rw [hj3]; exact k2 q hq⟩
      unfold rup
      rw [if_pos (by omega)]
    · obtain ⟨a', iv', av', r1, r2, r3⟩ := hrows (j + 1) (by omega)
      have ee : ∀ q, q < 246 → (m_keep svm z zv).2 (246 * j + q) = zv (246 * (j + 1) + q) := fun q hq => by
        rw [k3 _ (by omega)]
        exact congrArg _ (by omega)
      refine ⟨a', iv', av', ?_, r2.cong ee, r3.cong ee⟩
      unfold rup
      rw [if_neg (by omega), ← r1]
      exact congrArg _ (by omega)
  · simp only [if_neg c] at k1 k2 k3 ⊢
    refine ⟨s + 1, (p + 1) % 4, rfl, k1, rfl, by omega, by omega, fun j hj => ?_⟩
    by_cases hjs : j = s
    · refine ⟨a, iv, av, ?_, hr.cong fun q hq => by rw [hjs]; exact k2 q hq, hb.cong fun q hq => by rw [hjs]; exact k2 q hq⟩
      unfold rup
      rw [if_pos (by omega)]
    · obtain ⟨a', iv', av', r1, r2, r3⟩ := hrows j (by omega)
      have ee : ∀ q, q < 246 → (m_keep svm z zv).2 (246 * j + q) = zv (246 * j + q) := fun q hq => by rw [k3 _ (by omega)]
      refine ⟨a', iv', av', ?_, r2.cong ee, r3.cong ee⟩
      unfold rup
      rw [if_neg (by omega), ← r1]
      exact congrArg _ (by omega)

