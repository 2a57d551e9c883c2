/-! both sides: a tick's later half -/
def bitk (k : Nat) : Int32 := (1 : Int32) <<< ((nI k) &&& 31)
theorem bit_d1 : ∀ n, n < 256 → ∀ k, k < 8 → (decide (nI n &&& bitk k = 0) = !decide ((nI n >>> ((nI k) &&& 31)) &&& 1 = 1)) ∧ (nI n &&& bitk k = 0 ∨ nI n &&& bitk k = bitk k) ∧ decide (nI n &&& bitk k = 0) = decide ((nI n >>> ((nI k) &&& 31)) &&& 1 = 0) := by decide +kernel
theorem bit_d2 : ∀ n, n < 256 → ∀ k, k < 8 → (nI n ||| bitk k) = nI (nI n ||| bitk k).toNatClampNeg ∧ (nI n ||| bitk k).toNatClampNeg < 256 := by decide +kernel
theorem q_next (zs : Nat → Int32) (u : Int32) : x_X8_nextState (zs 7) (zs 9) u = m_nextState zs u := by
  have z1 : ¬ ((1 : Int32) = 0) := by decide
  have n12 : ¬ ((1 : Int32) = 2) := by decide
  have n21 : ¬ ((2 : Int32) = 1) := by decide
  unfold x_X8_nextState x_X8_nextState_j16 x_X8_nextState_j33 x_X8_nextState_j66 x_X8_nextState_j81 m_nextState m_nextState_j39 m_nextState_j61 m_nextState_j66
  by_cases a : zs 9 ≤ 0 <;> by_cases b : zs 7 = 2 <;> by_cases c : (1000 : Int32) ≤ u <;> by_cases d : u < 950 <;> by_cases e : (900 : Int32) ≤ u <;> by_cases g : zs 7 = 1 <;> by_cases j : u < 850 <;> simp_all
def eS (w : Nat → Int32) (r u : Int32) : Nat → Int32 := if r = w 7 then upd w 7 r else if r.toNatClampNeg = 2 then m_log (m_log (upd w 7 r) 1 r) 2 u else m_log (upd w 7 r) 1 r
theorem upd_id (w : Nat → Int32) (i : Nat) {v : Int32} (h : v = w i) : upd w i v = w := by
  funext q
  by_cases e : q = i
  · rw [e, upd_s, h]
  · rw [upd_o _ _ _ e]
theorem log_o {zs : Nat → Int32} (hG : mG zs) (kd vl : Int32) {q : Nat} (hq : q < 143 ∨ 234 ≤ q) : m_log zs kd vl q = zs q := by
  obtain ⟨e1, e2⟩ := hG.ev
  exact (log_at e1 e2 kd vl).1 q hq
theorem logR_u {go gc : Int32} {gt gk gv zs zt : Nat → Int32} (h : logR go gc gt gk gv zs) (hq : ∀ q, 143 ≤ q → q < 234 → zt q = zs q) : logR go gc gt gk gv zt := by
  obtain ⟨o, c, e1, e2, e3, e4, e5, e6⟩ := h
  refine ⟨o, c, e1, e2, e3, e4, by rw [hq 143 (by omega) (by omega)]; exact e5, fun i hi => ?_⟩
  rw [hq _ (by omega) (by omega), hq _ (by omega) (by omega), hq _ (by omega) (by omega)]
  exact e6 i hi
theorem upd7_G {w : Nat → Int32} (hG : mG w) {r : Int32} (hr : r = nI r.toNatClampNeg) (h4 : r.toNatClampNeg < 4) : mG (upd w 7 r) := by
  have e := nI_toInt (n := r.toNatClampNeg) (by omega)
  rw [← hr] at e
  exact mG.upd hG fun _ => ⟨by rw [e]; show (0 : Int) ≤ _; omega, by rw [e]; show _ ≤ (3 : Int); omega⟩
theorem eS_G {w : Nat → Int32} (hG : mG w) {r : Int32} (u : Int32) (hr : r = nI r.toNatClampNeg) (h4 : r.toNatClampNeg < 4) : mG (eS w r u) := by
  have h7 := upd7_G hG hr h4
  unfold eS
  split
  · exact h7
  · split
    · exact log_G (log_G h7 _ _) _ _
    · exact log_G h7 _ _
theorem eS_o {w : Nat → Int32} (hG : mG w) {r : Int32} (u : Int32) (hr : r = nI r.toNatClampNeg) (h4 : r.toNatClampNeg < 4) {q : Nat} (hq : q < 143 ∨ 234 ≤ q) : eS w r u q = upd w 7 r q := by
  have h7 := upd7_G hG hr h4
  unfold eS
  split
  · rfl
  · split
    · rw [log_o (log_G h7 _ _) _ _ hq, log_o h7 _ _ hq]
    · rw [log_o h7 _ _ hq]
theorem q_enter {go gc : Int32} {gt gk gv w : Nat → Int32} (h : logR go gc gt gk gv w) (hG : mG w) {r : Int32} (u : Int32) (hr : r = nI r.toNatClampNeg) (h4 : r.toNatClampNeg < 4) :
    ∃ go' gc' gt' gk' gv', x_X8_enterState (w 7) (w 8) go gc gt gk gv r u = (r, go', gc', gt', gk', gv') ∧ logR go' gc' gt' gk' gv' (eS w r u) := by
  have h7 := upd7_G hG hr h4
  have hu : logR go gc gt gk gv (upd w 7 r) := logR_u h fun q h1 h2 => upd_o _ _ _ (by omega)
  unfold x_X8_enterState eS
  by_cases c : r = w 7
  · rw [if_pos c, if_pos c]
    exact ⟨go, gc, gt, gk, gv, by rw [c], hu⟩
  · rw [if_neg c, if_neg c]
    have a1 := q_add hu 1 r
    have t8 : upd w 7 r 8 = w 8 := upd_o _ _ _ (by decide)
    rw [t8] at a1
    simp only [spLet_x]
    by_cases d : r = 2
    · have d2 : r.toNatClampNeg = 2 := by rw [d]; rfl
      rw [if_pos d, if_pos d2]
      have a2 := q_add a1 2 u
      rw [log_o h7 1 r (q := 8) (by omega), t8] at a2
      exact ⟨_, _, _, _, _, rfl, a2⟩
    · have d2 : ¬ r.toNatClampNeg = 2 := fun k => d (by rw [hr, k]; rfl)
      rw [if_neg d, if_neg d2]
      exact ⟨_, _, _, _, _, rfl, a1⟩
/-- the statistics of both sides -/
def lifR (yg : Int32) (ys yl zs : Nat → Int32) : Prop := yg = (if zs 12 = 0 then -1 else zs 13) ∧ (∀ k, k < 4 → ys k = zs (234 + k)) ∧ ∀ k, k < 8 → yl k = zs (238 + k)
theorem lift01 {zs : Nat → Int32} (hG : mG zs) : zs 12 = 0 ∨ zs 12 = 1 := by
  have b := hG.c12
  by_cases c : (zs 12).toInt = 0
  · exact Or.inl (Int32.toInt_inj.mp (by rw [c, l_0]))
  · exact Or.inr (Int32.toInt_inj.mp (by rw [l_1]; omega))
theorem q_j34 {go gc : Int32} {gt gk gv f : Nat → Int32} (h : logR go gc gt gk gv f) (hG : mG f) {yg : Int32} {ys yl : Nat → Int32} (hl : lifR yg ys yl f) (u : Int32) :
    ∃ go' gc' gt' gk' gv' yg' ys' yl', x_X5_countTick_j34 (f 8) (f 4) go gc gt gk gv u yg ys yl = (go', gc', gt', gk', gv', yg', ys', yl') ∧ logR go' gc' gt' gk' gv' (m_follow_j41 u f) ∧ lifR yg' ys' yl' (m_follow_j41 u f) := by
  have z1 : ¬ ((1 : Int32) = 0) := by decide
  have z01 : ¬ ((0 : Int32) = 1) := by decide
  obtain ⟨l1, l2, l3⟩ := hl
  have b13 := hG.c13
  unfold x_X5_countTick_j34 x_X5_countTick_j54 m_follow_j41 x_X6_followLift
  simp only [spLet_x]
  rcases lift01 hG with c | c
  · -- no lift
    rw [if_pos c] at l1
    have hn : ¬ (0 : Int32) ≤ yg := by rw [l1]; decide
    simp only [if_neg hn, c]
    rw [if_neg z01]
    refine ⟨go, gc, gt, gk, gv, yg, ys, yl, ?_, h, by rw [if_pos c]; exact l1, l2, l3⟩
    split <;> rfl
  · rw [if_neg (by rw [c]; exact z1)] at l1
    have hp : (0 : Int32) ≤ yg := Int32.le_iff_toInt_le.mpr (by rw [l1, l_0]; omega)
    have eg : (if yg < u then u else yg) = m_greater (f 13) u := by rw [greater_lt, l1]
    have g4 : upd f 13 (m_greater (f 13) u) 4 = f 4 := upd_o _ _ _ (by decide)
    have gG : mG (upd f 13 (m_greater (f 13) u)) := mG.upd hG fun _ => fol13 hG u
    simp only [if_pos hp, eg, if_pos c, g4]
    by_cases d : f 4 = 0
    · rw [if_pos d]
      simp only [if_neg z1]
      have e13 : upd f 13 (m_greater (f 13) u) 13 = m_greater (f 13) u := upd_s _ _ _
      obtain ⟨i1, i2⟩ := fol_its gG
      rw [e13] at i1 i2
      have el : (if (7 : Int32) < m_greater (f 13) u / 125 then (7 : Int32) else m_greater (f 13) u / 125) = m_lesser 7 (m_greater (f 13) u / 125) := (lesser_sw _ _).symm
      rw [el, e13]
      generalize m_lesser 7 (m_greater (f 13) u / 125) = r at i1 i2
      have hne : ¬ r = -1 := fun k => by rw [k] at i1; exact absurd i1 (by decide)
      rw [if_neg hne, if_pos d]
      have hq : ∀ q, q < 238 → ¬ q = 12 → ¬ q = 13 → upd (upd (upd (upd f 13 (m_greater (f 13) u)) 12 0) 13 0) (238 + r.toNatClampNeg) (upd (upd (upd f 13 (m_greater (f 13) u)) 12 0) 13 0 (238 + r.toNatClampNeg) + 1) q = f q := fun q h1 h2 h3 => by
        rw [upd_o _ _ _ (by omega), upd_o _ _ _ (by omega), upd_o _ _ _ (by omega), upd_o _ _ _ (by omega)]
      have hL : logR go gc gt gk gv (upd (upd (upd (upd f 13 (m_greater (f 13) u)) 12 0) 13 0) (238 + r.toNatClampNeg) (upd (upd (upd f 13 (m_greater (f 13) u)) 12 0) 13 0 (238 + r.toNatClampNeg) + 1)) := logR_u h fun q h1 h2 => hq q (by omega) (by omega) (by omega)
      have G2 : mG (upd (upd (upd (upd f 13 (m_greater (f 13) u)) 12 0) 13 0) (238 + r.toNatClampNeg) (upd (upd (upd f 13 (m_greater (f 13) u)) 12 0) 13 0 (238 + r.toNatClampNeg) + 1)) := mG.upd (mG.upd (mG.upd gG fun _ => ⟨by decide, by decide⟩) fun _ => ⟨by decide, by decide⟩) fun _ => mfree (by omega) _
      have e8 := hq 8 (by omega) (by omega) (by omega)
      have ek : ∀ k, k < 8 → upd (upd (upd (upd f 13 (m_greater (f 13) u)) 12 0) 13 0) (238 + r.toNatClampNeg) (upd (upd (upd f 13 (m_greater (f 13) u)) 12 0) 13 0 (238 + r.toNatClampNeg) + 1) (238 + k) = upd yl r.toNatClampNeg (yl r.toNatClampNeg + 1) k := fun k hk => by
        by_cases e : k = r.toNatClampNeg
        · rw [e, upd_s, upd_s, upd_o _ _ _ (by omega), upd_o _ _ _ (by omega), upd_o _ _ _ (by omega), l3 _ i2]
        · rw [upd_o _ _ _ (by omega), upd_o _ _ _ (by omega), upd_o _ _ _ (by omega), upd_o _ _ _ (by omega), upd_o _ _ _ e, l3 _ hk]
      have e12 : upd (upd (upd (upd f 13 (m_greater (f 13) u)) 12 0) 13 0) (238 + r.toNatClampNeg) (upd (upd (upd f 13 (m_greater (f 13) u)) 12 0) 13 0 (238 + r.toNatClampNeg) + 1) 12 = 0 := by rw [upd_o _ _ _ (by omega), upd_o _ _ _ (by omega), upd_s]
      generalize upd (upd (upd (upd f 13 (m_greater (f 13) u)) 12 0) 13 0) (238 + r.toNatClampNeg) (upd (upd (upd f 13 (m_greater (f 13) u)) 12 0) 13 0 (238 + r.toNatClampNeg) + 1) = W at hq hL G2 e8 ek e12
      have a := q_add hL 3 r
      rw [e8] at a
      refine ⟨_, _, _, _, _, _, _, _, rfl, a, ?_, fun k hk => ?_, fun k hk => ?_⟩
      · rw [log_o G2 _ _ (by omega), e12, if_pos rfl]
      · rw [log_o G2 _ _ (by omega), hq _ (by omega) (by omega) (by omega)]; exact l2 k hk
      · rw [log_o G2 _ _ (by omega)]; exact (ek k hk).symm
    · rw [if_neg d]
      simp only [if_true, if_neg d]
      refine ⟨_, _, _, _, _, _, _, _, rfl, logR_u h fun q h1 h2 => upd_o _ _ _ (by omega), ?_, fun k hk => ?_, fun k hk => ?_⟩
      · rw [upd_o _ _ _ (by decide), c, if_neg z1, upd_s]
      · rw [upd_o _ _ _ (by omega)]; exact l2 k hk
      · rw [upd_o _ _ _ (by omega)]; exact l3 k hk
theorem j41_G {f : Nat → Int32} (hG : mG f) (u : Int32) : mG (m_follow_j41 u f) := follow_j41_G hG u
theorem q_count {go gc : Int32} {gt gk gv w : Nat → Int32} (h : logR go gc gt gk gv w) (hG : mG w) {yg r : Int32} {ys yl : Nat → Int32} (hl : lifR yg ys yl w) (hr : r = nI r.toNatClampNeg) (h4 : r.toNatClampNeg < 4) (tb u : Int32) :
    ∃ go' gc' gt' gk' gv' yg' ys' yl', x_X5_countTick r (w 8) (w 4) go gc gt gk gv yg ys yl tb u = (go', gc', gt', gk', gv', yg', ys', yl') ∧ logR go' gc' gt' gk' gv' (m_follow (upd w (234 + r.toNatClampNeg) (w (234 + r.toNatClampNeg) + 1)) tb u) ∧ lifR yg' ys' yl' (m_follow (upd w (234 + r.toNatClampNeg) (w (234 + r.toNatClampNeg) + 1)) tb u) := by
  obtain ⟨l1, l2, l3⟩ := hl
  have ei := nI_toInt (n := r.toNatClampNeg) (by omega)
  rw [← hr] at ei
  have ec : x_X6_countState ys r = upd ys r.toNatClampNeg (ys r.toNatClampNeg + 1) := by
    unfold x_X6_countState
    simp only [spLet_x]
    rw [if_neg (fun k => by have := (lt_i l_0).mp k; omega), if_neg (fun k => by have := (i_le l_4).mp k; omega)]
  have hf : ∀ q, q < 234 → upd w (234 + r.toNatClampNeg) (w (234 + r.toNatClampNeg) + 1) q = w q := fun q hq => upd_o _ _ _ (by omega)
  have hL := logR_u h (zt := upd w (234 + r.toNatClampNeg) (w (234 + r.toNatClampNeg) + 1)) fun q h1 h2 => hf q h2
  have hT : lifR yg (upd ys r.toNatClampNeg (ys r.toNatClampNeg + 1)) yl (upd w (234 + r.toNatClampNeg) (w (234 + r.toNatClampNeg) + 1)) := by
    refine ⟨by rw [hf 12 (by omega), hf 13 (by omega)]; exact l1, fun k hk => ?_, fun k hk => ?_⟩
    · by_cases e : k = r.toNatClampNeg
      · rw [e, upd_s, upd_s, l2 _ h4]
      · rw [upd_o _ _ _ e, upd_o _ _ _ (by omega), l2 _ hk]
    · rw [upd_o _ _ _ (by omega)]; exact l3 k hk
  have G : mG (upd w (234 + r.toNatClampNeg) (w (234 + r.toNatClampNeg) + 1)) := mG.upd hG fun _ => mfree (by omega) _
  have e8 := hf 8 (by omega)
  have e4 := hf 4 (by omega)
  unfold x_X5_countTick
  simp only [spLet_x, ec, ← e8, ← e4]
  generalize upd w (234 + r.toNatClampNeg) (w (234 + r.toNatClampNeg) + 1) = f at hL hT G ⊢
  generalize upd ys r.toNatClampNeg (ys r.toNatClampNeg + 1) = ys' at hT ⊢
  unfold m_follow
  by_cases c : (4 : Int32) ≤ tb
  · rw [if_pos c, if_pos c]
    exact q_j34 hL G hT u
  · rw [if_neg c, if_neg c]
    by_cases d : f 4 = 4
    · rw [if_pos d, if_pos d]
      simp only [spLet_x]
      unfold x_X6_beginLift
      rcases lift01 G with k | k
      · have eg : yg = -1 := by rw [hT.1, if_pos k]
        rw [if_pos eg, if_pos k]
        have o : ∀ q, ¬ q = 12 → ¬ q = 13 → upd (upd f 12 1) 13 0 q = f q := fun q h1 h2 => by rw [upd_o _ _ _ h2, upd_o _ _ _ h1]
        have e12 : upd (upd f 12 1) 13 0 12 = 1 := by rw [upd_o _ _ _ (by decide), upd_s]
        have e13 : upd (upd f 12 1) 13 0 13 = 0 := upd_s _ _ _
        have G2 : mG (upd (upd f 12 1) 13 0) := mG.upd (mG.upd G fun _ => ⟨by decide, by decide⟩) fun _ => ⟨by decide, by decide⟩
        rw [← o 8 (by decide) (by decide), ← o 4 (by decide) (by decide)]
        have a1 : logR go gc gt gk gv (upd (upd f 12 1) 13 0) := logR_u hL fun q h1 h2 => o q (by omega) (by omega)
        have a2 : lifR 0 ys' yl (upd (upd f 12 1) 13 0) := ⟨by rw [e12, if_neg (by decide), e13], fun q hq => by rw [o _ (by omega) (by omega)]; exact hT.2.1 q hq, fun q hq => by rw [o _ (by omega) (by omega)]; exact hT.2.2 q hq⟩
        exact q_j34 a1 G2 a2 u
      · have k0 : ¬ f 12 = 0 := by rw [k]; decide
        have eg : ¬ yg = -1 := fun e => by
          have e1 := hT.1
          rw [if_neg k0] at e1
          have b := G.c13
          rw [← e1, e] at b
          exact absurd b.1 (by decide)
        rw [if_neg eg, if_neg k0]
        exact q_j34 hL G hT u
    · rw [if_neg d, if_neg d]
      exact q_j34 hL G hT u
