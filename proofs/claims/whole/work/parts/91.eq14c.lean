/-! both sides: further calls that change the state -/
section CH
variable {iv : Nat → Int32} {av : Nat → Nat → Int32} {z : Nat → Int32} {n : Nat}
theorem mlh_wind : ∀ k, k < 4 → mlo (14 + k) = 0 ∧ mhi (14 + k) = 1000 := by decide
theorem wind_m (sp : Int32) (u : Int32 × (Nat → Int32)) (z : Nat → Int32) : spIter (fun _ _ => default) (m_wind_b28 sp u) 4 0 z = (m_windNow (upd (upd (upd (upd z 14 (z 15)) 15 (z 16)) 16 (z 17)) 17 sp), u.1, 0, upd (upd (upd (upd z 14 (z 15)) 15 (z 16)) 16 (z 17)) 17 sp, u.2) := by
  simp only [spIter, m_wind_b28, spLet_x]
  rw [if_neg (show ¬ 3 ≤ 0 by decide), if_neg (show ¬ 3 ≤ 0 + 1 by decide), if_neg (show ¬ 3 ≤ 0 + 1 + 1 by decide), if_pos (show 3 ≤ 0 + 1 + 1 + 1 by decide)]
  rfl
theorem wind_x (cs : Nat → Int32) (sp : Int32) : x_X1_takeSample cs sp = upd (upd (upd (upd cs 3 (cs 2)) 2 (cs 1)) 1 (cs 0)) 0 sp := by
  unfold x_X1_takeSample
  simp only [spIter, x_X1_takeSample_b8, spLet_x]
  rw [if_neg (show ¬ (4 : Int32) - 1 ≤ 0 by decide), if_neg (show ¬ (4 : Int32) - 1 + -1 ≤ 0 by decide), if_neg (show ¬ (4 : Int32) - 1 + -1 + -1 ≤ 0 by decide), if_pos (show (4 : Int32) - 1 + -1 + -1 + -1 ≤ 0 by decide)]
  rfl
theorem q_windC (h : relSt iv av z) {sp : Int32} (h1 : okA sp 0 1000) (svm svc svn : Int32) (zv : Nat → Int32) :
    ∃ A cs' w, m_wind svm z zv sp = (A, (m_keep svm z zv).1, 0, w, (m_keep svm z zv).2) ∧ x_X8_wind svc svn (av 2) sp = (A, (x_X8_saveN svc svn).1, (x_X8_saveN svc svn).2, cs') ∧ relSt iv (avu av 2 cs') w ∧ (bnd n z → bnd n w) := by
  obtain ⟨hn, hr⟩ := h
  have hG := hr.G
  have hc := hr.1
  have s0 : av 2 0 = z 17 := hc.2.2.2 0 (by decide)
  have s1 : av 2 1 = z 16 := hc.2.2.2 1 (by decide)
  have s2 : av 2 2 = z 15 := hc.2.2.2 2 (by decide)
  have o : ∀ q, q < 14 ∨ 17 < q → upd (upd (upd (upd z 14 (z 15)) 15 (z 16)) 16 (z 17)) 17 sp q = z q := fun q hq => by rw [upd_o _ _ _ (by omega), upd_o _ _ _ (by omega), upd_o _ _ _ (by omega), upd_o _ _ _ (by omega)]
  have bw : ∀ k, 14 ≤ k → k < 18 → mlo k = 0 ∧ mhi k = 1000 := fun k h1 h2 => by
    have := mlh_wind (k - 14) (by omega)
    rw [show 14 + (k - 14) = k by omega] at this
    exact this
  have wb : ∀ k, 14 ≤ k → k < 18 → 0 ≤ (z k).toInt ∧ (z k).toInt ≤ 1000 := fun k h1 h2 => by
    have := hG k (by omega)
    rw [(bw k h1 h2).1, (bw k h1 h2).2] at this
    exact this
  have wm : ∀ j k, 14 ≤ j → j < 18 → 14 ≤ k → k < 18 → mlo j ≤ (z k).toInt ∧ (z k).toInt ≤ mhi j := fun j k a b c d => by rw [(bw j a b).1, (bw j a b).2]; exact wb k c d
  have G : mG (upd (upd (upd (upd z 14 (z 15)) 15 (z 16)) 16 (z 17)) 17 sp) := mG.upd (mG.upd (mG.upd (mG.upd hG fun _ => wm 14 15 (by omega) (by omega) (by omega) (by omega)) fun _ => wm 15 16 (by omega) (by omega) (by omega) (by omega)) fun _ => wm 16 17 (by omega) (by omega) (by omega) (by omega)) fun _ => h1
  have hs : ∀ k, k < 4 → upd (upd (upd (upd (av 2) 3 (av 2 2)) 2 (av 2 1)) 1 (av 2 0)) 0 sp k = upd (upd (upd (upd z 14 (z 15)) 15 (z 16)) 16 (z 17)) 17 sp (17 - k) := fun k hk => by
    rcases (show k = 0 ∨ k = 1 ∨ k = 2 ∨ k = 3 by omega) with rfl | rfl | rfl | rfl
    · rfl
    · exact s0
    · exact s1
    · exact s2
  refine ⟨m_windNow (upd (upd (upd (upd z 14 (z 15)) 15 (z 16)) 16 (z 17)) 17 sp), upd (upd (upd (upd (av 2) 3 (av 2 2)) 2 (av 2 1)) 1 (av 2 0)) 0 sp, upd (upd (upd (upd z 14 (z 15)) 15 (z 16)) 16 (z 17)) 17 sp, ?_, ?_, ⟨?_, ?_⟩, ?_⟩
  · unfold m_wind
    simp only [spLet_x, wind_m]
    rw [in_1 h1]
    rfl
  · unfold x_X8_wind
    simp only [spLet_x, wind_x]
    rw [q_wind hs]
  · obtain ⟨a0, a1, a2, a3, a4, a5, a6, a7, a8, a9, a10⟩ := hn
    refine ⟨?_, ?_, ?_, ?_, ?_, ?_, ?_, ?_, ?_, ?_, ?_⟩ <;> (rw [o _ (by omega)]; assumption)
  · exact hr.re ⟨by rw [o _ (by omega)]; exact hc.1, fun k hk => by rw [o _ (by omega)]; exact hc.2.1 k hk, fun k hk => by rw [o _ (by omega)]; exact hc.2.2.1 k hk, hs⟩ (hr.2.1.up fun q hq => o q (by omega)) G fun q hq => o q (by omega)
  · exact fun hb => hb.up fun q hq => o q (by omega)
theorem q_wind_1 {sp : Int32} (h1 : ¬ okA sp 0 1000) (svm : Int32) (zv : Nat → Int32) : m_wind svm z zv sp = (0, svm, 1, z, zv) := by
  unfold m_wind m_fails
  simp only [spLet_x]
  rw [in_0 h1, if_pos rfl]
end CH
