/-! both sides: a tick -/
/-- all but the boom's five numbers and the log stay -/
def frP (z w : Nat → Int32) : Prop := ∀ q, (4 < q ∧ q < 143) ∨ 234 ≤ q → w q = z q
theorem frP.tab {cw : Int32} {cv ce cs z w : Nat → Int32} (h : cTab cw cv ce cs z) (f : frP z w) : cTab cw cv ce cs w := by
  obtain ⟨h1, h2, h3, h4⟩ := h
  exact ⟨by rw [f 10 (by omega)]; exact h1, fun k hk => by rw [f _ (by omega)]; exact h2 k hk, fun k hk => by rw [f _ (by omega)]; exact h3 k hk, fun k hk => by rw [f _ (by omega)]; exact h4 k hk⟩
theorem frP.zon {zc : Int32} {zf z w : Nat → Int32} (h : cZon zc zf z) (f : frP z w) : cZon zc zf w := by
  obtain ⟨h1, h2⟩ := h
  exact ⟨by rw [f 18 (by omega)]; exact h1, fun k hk => by rw [f _ (by omega)]; exact h2 k hk⟩
theorem frP.carry {z w : Nat → Int32} (f : frP z w) (mo : Int32) : frP z (m_carry w mo) := fun q hq => by rw [carry_hi w mo (by omega)]; exact f q hq
theorem frP.log {z w : Nat → Int32} (f : frP z w) (hG : mG w) (kd vl : Int32) : frP z (m_log w kd vl) := fun q hq => by rw [log_o hG kd vl (by omega)]; exact f q hq
section MV
variable {z : Nat → Int32} {te0 cw zc yg mos by_ : Int32} {cv ce cs zf ys yl : Nat → Int32}
theorem X_step (hc : cTab cw cv ce cs z) (hz : cZon zc zf z) {w : Nat → Int32} (hG : mG w) (hf : frP z w) (R) (v : Int32) (k : Nat) (hk : k < 8) (go gc : Int32) (gt gk gv : Nat → Int32) :
    x_X8_tick_b52 (z 7) (z 11) te0 (z 6) (z 5) cw cv ce cs zc zf yg ys yl mos (z 8) by_ R v k (w 0) (w 1) (w 2) (w 3) (w 4) go gc gt gk gv =
      if mos &&& bitk k = 0 then R v (k + 1) (w 0) (w 1) (w 2) (w 3) (w 4) go gc gt gk gv
      else if perM w (nI k) = 0 then (if z 11 &&& (mos &&& bitk k) = 0 then R (v ||| (mos &&& bitk k)) (k + 1) (w 0) (w 1) (w 2) (w 3) (w 4) (x_X3_add go gc gt gk gv (z 8) 0 (nI k)).1 (x_X3_add go gc gt gk gv (z 8) 0 (nI k)).2.1 (x_X3_add go gc gt gk gv (z 8) 0 (nI k)).2.2.1 (x_X3_add go gc gt gk gv (z 8) 0 (nI k)).2.2.2.1 (x_X3_add go gc gt gk gv (z 8) 0 (nI k)).2.2.2.2 else R (v ||| (mos &&& bitk k)) (k + 1) (w 0) (w 1) (w 2) (w 3) (w 4) go gc gt gk gv)
      else R v (k + 1) (m_carry w (nI k) 0) (m_carry w (nI k) 1) (m_carry w (nI k) 2) (m_carry w (nI k) 3) (m_carry w (nI k) 4) go gc gt gk gv := by
  have ek := nI_toInt (n := k) (by omega)
  have e7 := hf 7 (by omega)
  have e6 := hf 6 (by omega)
  have e5 := hf 5 (by omega)
  have ep := q_permitted (hf.tab hc) (hf.zon hz) hG (mo := nI k) (by omega) (by omega)
  rw [e7, e6, e5] at ep
  have em := q_move w hG (mo := nI k) (by omega) (by omega)
  rw [e7, e6] at em
  unfold x_X8_tick_b52 x_X8_tick_j141
  simp only [spLet_x, ep, em, bv]
  rw [if_neg (by omega)]
  rfl
theorem M_step (w : Nat → Int32) (R) (v : Int32) (k : Nat) (hk : k < 8) (mm mr : Int32) (zp : Nat → Int32) :
    ∃ mm' mr' zp', m_move_b4 mos R v k mm mr w zp =
      if (mos >>> ((nI k) &&& 31)) &&& 1 = 1 then (if perM w (nI k) = 0 then (if ((w 11) >>> ((nI k) &&& 31)) &&& 1 = 0 then R (v ||| bitk k) (k + 1) mm' mr' (m_log w 0 (nI k)) zp' else R (v ||| bitk k) (k + 1) mm' mr' w zp') else R v (k + 1) mm' mr' (m_carry w (nI k)) zp')
      else R v (k + 1) mm mr w zp := by
  refine ⟨(m_isPermitted mm mr w zp (nI k)).2.1, (m_isPermitted mm mr w zp (nI k)).2.2.1, (m_isPermitted mm mr w zp (nI k)).2.2.2, ?_⟩
  unfold m_move_b4 m_move_j61
  simp only [spLet_x, per_m]
  rw [if_neg (by omega)]
  rfl
/-- a byte's worth of motions -/
def byt (x : Int32) : Prop := x = nI x.toNatClampNeg ∧ x.toNatClampNeg < 256
theorem byt.bit {x : Int32} (h : byt x) {k : Nat} (hk : k < 8) : ((x &&& bitk k = 0) ↔ ¬ ((x >>> ((nI k) &&& 31)) &&& 1 = 1)) ∧ (x &&& bitk k = 0 ∨ x &&& bitk k = bitk k) ∧ ((x &&& bitk k = 0) ↔ ((x >>> ((nI k) &&& 31)) &&& 1 = 0)) ∧ byt (x ||| bitk k) := by
  obtain ⟨h1, h2⟩ := h
  obtain ⟨a1, a2, a3⟩ := bit_d1 _ h2 k hk
  have a4 := bit_d2 _ h2 k hk
  rw [← h1] at a1 a2 a3 a4
  exact ⟨⟨fun h k => by rw [decide_eq_true h, decide_eq_true k] at a1; exact absurd a1 (by decide), fun h => by rw [decide_eq_false h] at a1; exact of_decide_eq_true a1⟩, a2, decide_eq_decide.mp a3, a4⟩
theorem mv_loop (hc : cTab cw cv ce cs z) (hz : cZon zc zf z) (hm : byt mos) (hh : byt (z 11)) :
    ∀ (n k : Nat) (v mm mr : Int32) (w zp : Nat → Int32) (go gc : Int32) (gt gk gv : Nat → Int32), k ≤ 8 → 8 < k + n → mG w → frP z w → byt v → logR go gc gt gk gv w →
      ∃ go' gc' gt' gk' gv',
        spIter (fun _ _ _ _ _ _ _ _ _ _ _ _ => default) (x_X8_tick_b52 (z 7) (z 11) te0 (z 6) (z 5) cw cv ce cs zc zf yg ys yl mos (z 8) by_) n v k (w 0) (w 1) (w 2) (w 3) (w 4) go gc gt gk gv = x_X8_tick_b52 (z 7) (z 11) te0 (z 6) (z 5) cw cv ce cs zc zf yg ys yl mos (z 8) by_ (fun _ _ _ _ _ _ _ _ _ _ _ _ => default) (spIter (fun _ _ _ _ _ _ => default) (m_move_b4 mos) n v k mm mr w zp).1 8 ((spIter (fun _ _ _ _ _ _ => default) (m_move_b4 mos) n v k mm mr w zp).2.2.2.1 0) ((spIter (fun _ _ _ _ _ _ => default) (m_move_b4 mos) n v k mm mr w zp).2.2.2.1 1) ((spIter (fun _ _ _ _ _ _ => default) (m_move_b4 mos) n v k mm mr w zp).2.2.2.1 2) ((spIter (fun _ _ _ _ _ _ => default) (m_move_b4 mos) n v k mm mr w zp).2.2.2.1 3) ((spIter (fun _ _ _ _ _ _ => default) (m_move_b4 mos) n v k mm mr w zp).2.2.2.1 4) go' gc' gt' gk' gv'
        ∧ logR go' gc' gt' gk' gv' (spIter (fun _ _ _ _ _ _ => default) (m_move_b4 mos) n v k mm mr w zp).2.2.2.1 ∧ frP z (spIter (fun _ _ _ _ _ _ => default) (m_move_b4 mos) n v k mm mr w zp).2.2.2.1 ∧ mG (spIter (fun _ _ _ _ _ _ => default) (m_move_b4 mos) n v k mm mr w zp).2.2.2.1 ∧ byt (spIter (fun _ _ _ _ _ _ => default) (m_move_b4 mos) n v k mm mr w zp).1 := by
  intro n
  induction n with
  | zero => intro k v mm mr w zp go gc gt gk gv h1 h2; omega
  | succ n ih =>
    intro k v mm mr w zp go gc gt gk gv h1 h2 hG hf hv hl
    show ∃ go' gc' gt' gk' gv', x_X8_tick_b52 (z 7) (z 11) te0 (z 6) (z 5) cw cv ce cs zc zf yg ys yl mos (z 8) by_ (spIter (fun _ _ _ _ _ _ _ _ _ _ _ _ => default) (x_X8_tick_b52 (z 7) (z 11) te0 (z 6) (z 5) cw cv ce cs zc zf yg ys yl mos (z 8) by_) n) v k (w 0) (w 1) (w 2) (w 3) (w 4) go gc gt gk gv = x_X8_tick_b52 (z 7) (z 11) te0 (z 6) (z 5) cw cv ce cs zc zf yg ys yl mos (z 8) by_ (fun _ _ _ _ _ _ _ _ _ _ _ _ => default) (m_move_b4 mos (spIter (fun _ _ _ _ _ _ => default) (m_move_b4 mos) n) v k mm mr w zp).1 8 ((m_move_b4 mos (spIter (fun _ _ _ _ _ _ => default) (m_move_b4 mos) n) v k mm mr w zp).2.2.2.1 0) ((m_move_b4 mos (spIter (fun _ _ _ _ _ _ => default) (m_move_b4 mos) n) v k mm mr w zp).2.2.2.1 1) ((m_move_b4 mos (spIter (fun _ _ _ _ _ _ => default) (m_move_b4 mos) n) v k mm mr w zp).2.2.2.1 2) ((m_move_b4 mos (spIter (fun _ _ _ _ _ _ => default) (m_move_b4 mos) n) v k mm mr w zp).2.2.2.1 3) ((m_move_b4 mos (spIter (fun _ _ _ _ _ _ => default) (m_move_b4 mos) n) v k mm mr w zp).2.2.2.1 4) go' gc' gt' gk' gv'
        ∧ logR go' gc' gt' gk' gv' (m_move_b4 mos (spIter (fun _ _ _ _ _ _ => default) (m_move_b4 mos) n) v k mm mr w zp).2.2.2.1 ∧ frP z (m_move_b4 mos (spIter (fun _ _ _ _ _ _ => default) (m_move_b4 mos) n) v k mm mr w zp).2.2.2.1 ∧ mG (m_move_b4 mos (spIter (fun _ _ _ _ _ _ => default) (m_move_b4 mos) n) v k mm mr w zp).2.2.2.1 ∧ byt (m_move_b4 mos (spIter (fun _ _ _ _ _ _ => default) (m_move_b4 mos) n) v k mm mr w zp).1
    generalize spIter (fun _ _ _ _ _ _ _ _ _ _ _ _ => default) (x_X8_tick_b52 (z 7) (z 11) te0 (z 6) (z 5) cw cv ce cs zc zf yg ys yl mos (z 8) by_) n = RX at ih ⊢
    generalize spIter (fun _ _ _ _ _ _ => default) (m_move_b4 mos) n = RM at ih ⊢
    by_cases hk : k < 8
    · obtain ⟨b1, b2, -, -⟩ := hm.bit hk
      obtain ⟨-, -, b3, -⟩ := hh.bit hk
      obtain ⟨-, -, -, b4⟩ := hv.bit hk
      have e8 := hf 8 (by omega)
      have e11 := hf 11 (by omega)
      obtain ⟨mm', mr', zp', em⟩ := M_step (mos := mos) w RM v k hk mm mr zp
      rw [X_step hc hz hG hf RX v k hk go gc gt gk gv, em]
      by_cases c : mos &&& bitk k = 0
      · rw [if_pos c, if_neg (b1.mp c)]
        exact ih (k + 1) v mm mr w zp go gc gt gk gv (by omega) (by omega) hG hf hv hl
      · have c2 : mos &&& bitk k = bitk k := b2.resolve_left c
        rw [if_neg c, if_pos (Decidable.not_not.mp (mt b1.mpr c)), c2]
        by_cases d : perM w (nI k) = 0
        · rw [if_pos d, if_pos d]
          by_cases f : z 11 &&& bitk k = 0
          · have f2 := b3.mp f
            rw [← e11] at f2
            rw [if_pos f, if_pos f2]
            have a := q_add hl 0 (nI k)
            rw [e8] at a
            exact ih (k + 1) (v ||| bitk k) mm' mr' (m_log w 0 (nI k)) zp' _ _ _ _ _ (by omega) (by omega) (log_G hG _ _) (hf.log hG _ _) b4 a |> fun h => by
              rw [log_o hG 0 (nI k) (q := 0) (by omega), log_o hG 0 (nI k) (q := 1) (by omega), log_o hG 0 (nI k) (q := 2) (by omega), log_o hG 0 (nI k) (q := 3) (by omega), log_o hG 0 (nI k) (q := 4) (by omega)] at h
              exact h
          · have f2 := mt b3.mpr f
            rw [← e11] at f2
            rw [if_neg f, if_neg f2]
            exact ih (k + 1) (v ||| bitk k) mm' mr' w zp' go gc gt gk gv (by omega) (by omega) hG hf b4 hl
        · rw [if_neg d, if_neg d]
          exact ih (k + 1) v mm' mr' (m_carry w (nI k)) zp' go gc gt gk gv (by omega) (by omega) (carry_G hG _) (hf.carry _) hv (logR_u hl fun q h1 h2 => carry_hi w _ (by omega))
    · have e9 : k = 8 := by omega
      subst e9
      have em : m_move_b4 mos RM v 8 mm mr w zp = (v, mm, mr, w, zp) := by unfold m_move_b4; rw [if_pos (by decide)]
      rw [em]
      refine ⟨go, gc, gt, gk, gv, ?_, hl, hf, hG, hv⟩
      unfold x_X8_tick_b52
      simp only [if_pos (show 8 ≤ 8 by decide)]
end MV
