/-! both sides: zones and tables that are filled -/
section CH
variable {iv : Nat → Int32} {av : Nat → Nat → Int32} {z : Nat → Int32} {n : Nat}
theorem q_addZone (h : relSt iv av z) {fr to ra he : Int32} (h1 : okA fr 0 3599) (h2 : okA to 0 3599) (h3 : okA ra 0 10000) (h4 : okA he 0 10000) (h5 : okS (if (6 : Int32) ≤ iv 12 then (0 : Int32) else 1)) (svm svc svn : Int32) (zv : Nat → Int32) :
    ∃ A zf' w, m_addZone svm z zv fr to ra he = (A, (m_keep svm z zv).1, 0, w, (m_keep svm z zv).2) ∧ x_X8_addZone svc svn (iv 12) (av 3) fr to ra he = (A, (x_X8_saveN svc svn).1, (x_X8_saveN svc svn).2, A, zf') ∧ relSt (ivu iv 12 A) (avu av 3 zf') w ∧ (bnd n z → bnd n w) := by
  obtain ⟨hn, hr⟩ := h
  have hG := hr.G
  obtain ⟨zc, zf⟩ := hr.2.1
  obtain ⟨y1, y2⟩ := hG.zones
  have h5' := okS_if'.mp h5
  have e6 : ((6 : Int32)).toInt = 6 := by decide
  have ec := nI_toInt (n := (z 18).toNatClampNeg) (by omega)
  rw [← y1] at ec
  have c6 : (z 18).toNatClampNeg < 6 := by
    have : ¬ (6 : Int) ≤ (iv 12).toInt := fun k => h5' (Int32.le_iff_toInt_le.mpr (by rw [e6]; exact k))
    rw [zc] at this
    omega
  obtain ⟨⟨p0, p1⟩, ⟨p2, p3⟩, ⟨p4, p5⟩, p6, p7⟩ := mlh_z0 _ c6
  have n1 : z 18 + 1 = nI ((z 18).toNatClampNeg + 1) := nadd y1 rfl
  generalize hc : (z 18).toNatClampNeg = c at *
  have i1 : 19 + 4 * c + 1 = 20 + 4 * c := by omega
  have i2 : 19 + 4 * c + 2 = 21 + 4 * c := by omega
  have i3 : 19 + 4 * c + 3 = 22 + 4 * c := by omega
  have o4 : upd (upd (upd (upd z (19 + 4 * c) fr) (20 + 4 * c) to) (21 + 4 * c) ra) (22 + 4 * c) he 18 = z 18 := by rw [upd_o _ _ _ (by omega), upd_o _ _ _ (by omega), upd_o _ _ _ (by omega), upd_o _ _ _ (by omega)]
  have o : ∀ q, q < 18 ∨ 43 ≤ q → upd (upd (upd (upd (upd z (19 + 4 * c) fr) (20 + 4 * c) to) (21 + 4 * c) ra) (22 + 4 * c) he) 18 (nI (c + 1)) q = z q := fun q hq => by rw [upd_o _ _ _ (by omega), upd_o _ _ _ (by omega), upd_o _ _ _ (by omega), upd_o _ _ _ (by omega), upd_o _ _ _ (by omega)]
  have b0 : mlo (19 + 4 * c) ≤ fr.toInt ∧ fr.toInt ≤ mhi (19 + 4 * c) := by rw [p0, p1]; exact h1
  have b1 : mlo (20 + 4 * c) ≤ to.toInt ∧ to.toInt ≤ mhi (20 + 4 * c) := by rw [p2, p3]; exact h2
  have b2 : mlo (21 + 4 * c) ≤ ra.toInt ∧ ra.toInt ≤ mhi (21 + 4 * c) := by rw [p4, p5]; exact h3
  have b3 : mlo (22 + 4 * c) ≤ he.toInt ∧ he.toInt ≤ mhi (22 + 4 * c) := by rw [p6, p7]; exact h4
  have b4 : mlo 18 ≤ (nI (c + 1)).toInt ∧ (nI (c + 1)).toInt ≤ mhi 18 := by
    rw [nI_toInt (by omega), show mlo 18 = 0 from rfl, show mhi 18 = 6 from rfl]
    omega
  have G : mG (upd (upd (upd (upd (upd z (19 + 4 * c) fr) (20 + 4 * c) to) (21 + 4 * c) ra) (22 + 4 * c) he) 18 (nI (c + 1))) := mG.upd (mG.upd (mG.upd (mG.upd (mG.upd hG fun _ => b0) fun _ => b1) fun _ => b2) fun _ => b3) fun _ => b4
  refine ⟨nI (c + 1), upd (upd (upd (upd (av 3) (4 * c) fr) (4 * c + 1) to) (4 * c + 2) ra) (4 * c + 3) he, upd (upd (upd (upd (upd z (19 + 4 * c) fr) (20 + 4 * c) to) (21 + 4 * c) ra) (22 + 4 * c) he) 18 (nI (c + 1)), ?_, ?_, ⟨?_, ?_⟩, fun hb => hb.up fun q hq => o q (by omega)⟩
  · unfold m_addZone
    simp only [spLet_x, hc, i1, i2, i3, o4, n1]
    rw [in_1 h1, in_1 h2, in_1 h3, in_1 h4, if_neg (by decide), if_neg (by decide), if_neg (by decide), if_neg (by decide), if_neg (by omega), upd_s]
  · have hx : x_X7_add (iv 12) (av 3) fr to ra he = (nI (c + 1), upd (upd (upd (upd (av 3) (4 * c) fr) (4 * c + 1) to) (4 * c + 2) ra) (4 * c + 3) he) := by
      unfold x_X7_add
      simp only [spLet_x]
      rw [zc, hc, if_neg (by omega), if_pos (by omega), Nat.mul_comm c 4]
    unfold x_X8_addZone x_X8_addZone_j45
    rw [if_neg h5']
    simp only [spLet_x, hx]
  · obtain ⟨a0, a1, a2, a3, a4, a5, a6, a7, a8, a9, a10⟩ := hn
    refine ⟨?_, ?_, ?_, ?_, ?_, ?_, ?_, ?_, ?_, ?_, ?_⟩ <;> (rw [ivu_o _ _ _ (by omega), o _ (by omega)]; assumption)
  · refine hr.re (zc' := nI (c + 1)) (zf' := upd (upd (upd (upd (av 3) (4 * c) fr) (4 * c + 1) to) (4 * c + 2) ra) (4 * c + 3) he) (hr.1.up fun q hq => o q (by omega)) ⟨by rw [upd_s], fun k hk => ?_⟩ G fun q hq => o q (by omega)
    by_cases e0 : k = 4 * c
    · rw [e0, upd_o _ _ _ (by omega), upd_o _ _ _ (by omega), upd_o _ _ _ (by omega), upd_s, upd_o _ _ _ (by omega), upd_o _ _ _ (by omega), upd_o _ _ _ (by omega), upd_o _ _ _ (by omega), upd_s]
    · by_cases e1 : k = 4 * c + 1
      · rw [e1, upd_o _ _ _ (by omega), upd_o _ _ _ (by omega), upd_s, show 19 + (4 * c + 1) = 20 + 4 * c by omega, upd_o _ _ _ (by omega), upd_o _ _ _ (by omega), upd_o _ _ _ (by omega), upd_s]
      · by_cases e2 : k = 4 * c + 2
        · rw [e2, upd_o _ _ _ (by omega), upd_s, show 19 + (4 * c + 2) = 21 + 4 * c by omega, upd_o _ _ _ (by omega), upd_o _ _ _ (by omega), upd_s]
        · by_cases e3 : k = 4 * c + 3
          · rw [e3, upd_s, show 19 + (4 * c + 3) = 22 + 4 * c by omega, upd_o _ _ _ (by omega), upd_s]
          · rw [upd_o _ _ _ e3, upd_o _ _ _ e2, upd_o _ _ _ e1, upd_o _ _ _ e0, upd_o _ _ _ (by omega), upd_o _ _ _ (by omega), upd_o _ _ _ (by omega), upd_o _ _ _ (by omega), upd_o _ _ _ (by omega)]
            exact zf k hk
theorem q_addZone_1 {fr to ra he : Int32} (h : ¬ (okA fr 0 3599 ∧ okA to 0 3599 ∧ okA ra 0 10000 ∧ okA he 0 10000)) (svm : Int32) (zv : Nat → Int32) : m_addZone svm z zv fr to ra he = (0, svm, 1, z, zv) := by
  have ej : m_addZone_j50 svm z zv = (0, svm, 1, z, zv) := by
    unfold m_addZone_j50 m_fails
    simp only [spLet_x]
  unfold m_addZone
  simp only [spLet_x, ej]
  by_cases h1 : okA fr 0 3599
  · rw [in_1 h1, if_neg (by decide)]
    by_cases h2 : okA to 0 3599
    · rw [in_1 h2, if_neg (by decide)]
      by_cases h3 : okA ra 0 10000
      · rw [in_1 h3, if_neg (by decide), in_0 (fun k => h ⟨h1, h2, h3, k⟩), if_pos rfl]
      · rw [in_0 h3, if_pos rfl]
    · rw [in_0 h2, if_pos rfl]
  · rw [in_0 h1, if_pos rfl]
theorem q_addZone_2 (h : relSt iv av z) {fr to ra he : Int32} (h1 : okA fr 0 3599) (h2 : okA to 0 3599) (h3 : okA ra 0 10000) (h4 : okA he 0 10000) (h5 : ¬ okS (if (6 : Int32) ≤ iv 12 then (0 : Int32) else 1)) (svm : Int32) (zv : Nat → Int32) : m_addZone svm z zv fr to ra he = (0, svm, 2, z, zv) := by
  obtain ⟨zc, zf⟩ := h.2.2.1
  have b := h.2.G.c18
  obtain ⟨y1, y2⟩ := h.2.G.zones
  have h5' : (6 : Int32) ≤ iv 12 := Decidable.not_not.mp (mt okS_if'.mpr h5)
  have e6 : ((6 : Int32)).toInt = 6 := by decide
  have ec := nI_toInt (n := (z 18).toNatClampNeg) (by omega)
  rw [← y1] at ec
  have c6 : (z 18).toNatClampNeg = 6 := by
    have := Int32.le_iff_toInt_le.mp h5'
    rw [zc, e6] at this
    omega
  unfold m_addZone m_fails
  simp only [spLet_x]
  rw [in_1 h1, in_1 h2, in_1 h3, in_1 h4, if_neg (by decide), if_neg (by decide), if_neg (by decide), if_neg (by decide), if_pos c6]
theorem mlh_sh : ∀ k, k < 20 → mlo (19 + k) = mlo (19 + k + 4) ∧ mhi (19 + k) = mhi (19 + k + 4) := by decide +kernel
theorem rz_loop {zc : Int32} {c : Nat} (hc : zc.toNatClampNeg = c) (z0 : Nat → Int32) (hz : (z0 18).toNatClampNeg = c) (c6 : c ≤ 6) (c0 : 0 < c) (u : Int32 × (Nat → Int32)) : ∀ (n1 n2 k : Nat) (zf w : Nat → Int32), k ≤ (c - 1) * 4 → (c - 1) * 4 < k + n1 → (c - 1) * 4 < k + n2 → (∀ j, j < 24 → zf j = w (19 + j)) → mG w →
    ∃ zf' w', spIter (fun _ _ => default) (x_X7_remove_b26 zc) n1 k zf = (zc - 1, zf') ∧ spIter (fun _ _ => default) (m_removeZone_b50 z0 u) n2 (19 + k) w = (w' 18, u.1, 0, w', u.2) ∧ (∀ j, j < 24 → zf' j = w' (19 + j)) ∧ mG w' ∧ ∀ q, q < 19 ∨ 43 ≤ q → w' q = w q := by
  intro n1
  induction n1 with
  | zero => intro n2 k zf w h1 h2; omega
  | succ n1 ih =>
    intro n2 k zf w h1 h2 h3 hw G
    obtain ⟨m2, rfl⟩ : ∃ m, n2 = m + 1 := ⟨n2 - 1, by omega⟩
    show ∃ zf' w', x_X7_remove_b26 zc (spIter (fun _ _ => default) (x_X7_remove_b26 zc) n1) k zf = (zc - 1, zf') ∧ m_removeZone_b50 z0 u (spIter (fun _ _ => default) (m_removeZone_b50 z0 u) m2) (19 + k) w = (w' 18, u.1, 0, w', u.2) ∧ (∀ j, j < 24 → zf' j = w' (19 + j)) ∧ mG w' ∧ ∀ q, q < 19 ∨ 43 ≤ q → w' q = w q
    have ih2 := ih m2 (k + 1)
    clear ih
    generalize spIter (fun _ _ => default) (x_X7_remove_b26 zc) n1 = R1 at ih2 ⊢
    generalize spIter (fun _ _ => default) (m_removeZone_b50 z0 u) m2 = R2 at ih2 ⊢
    unfold x_X7_remove_b26 m_removeZone_b50
    simp only [spLet_x, hc, hz]
    by_cases c1 : (c - 1) * 4 ≤ k
    · rw [if_pos c1, if_pos (by omega)]
      exact ⟨zf, w, rfl, rfl, hw, G, fun _ _ => rfl⟩
    · rw [if_neg c1, if_neg (by omega)]
      obtain ⟨m1, m3⟩ := mlh_sh k (by omega)
      have bb := G (19 + k + 4) (by omega)
      rw [← m1, ← m3] at bb
      obtain ⟨zf', w', e1, e2, e3, e4, e5⟩ := ih2 (upd zf k (zf (k + 4))) (upd w (19 + k) (w (19 + k + 4))) (by omega) (by omega) (by omega) (fun j hj => by
        by_cases e : j = k
        · rw [e, upd_s, upd_s, hw _ (by omega), Nat.add_assoc]
        · rw [upd_o _ _ _ e, upd_o _ _ _ (by omega), hw j hj]) (mG.upd G fun _ => bb)
      exact ⟨zf', w', e1, by rw [show 19 + k + 1 = 19 + (k + 1) by omega]; exact e2, e3, e4, fun q hq => by rw [e5 q hq, upd_o _ _ _ (by omega)]⟩
theorem okI_z (h : relSt iv av z) {ix : Int32} : okI ix (iv 12) ↔ okA ix 0 (z 18 - 1) := by
  have b := h.2.G.c18
  have e := zsub (x := z 18) (y := 1) rfl l_1 (by omega) (by omega)
  rw [h.2.2.1.1]
  exact okI_A (by omega)
theorem q_removeZone (h : relSt iv av z) {ix : Int32} (h1 : okI ix (iv 12)) (svm svc svn : Int32) (zv : Nat → Int32) :
    ∃ A zf' w, m_removeZone svm z zv ix = (A, (m_keep svm z zv).1, 0, w, (m_keep svm z zv).2) ∧ x_X8_removeZone svc svn (iv 12) (av 3) ix = (A, (x_X8_saveN svc svn).1, (x_X8_saveN svc svn).2, A, zf') ∧ relSt (ivu iv 12 A) (avu av 3 zf') w ∧ (bnd n z → bnd n w) := by
  have hin := in_1 ((okI_z h).mp h1)
  obtain ⟨hn, hr⟩ := h
  have hG := hr.G
  obtain ⟨zc, zf⟩ := hr.2.1
  obtain ⟨y1, y2⟩ := hG.zones
  obtain ⟨x1, x2⟩ := okI_n h1
  rw [zc] at x2
  have ez := zsub (x := z 18) (y := 1) rfl l_1 (by have := hG.c18; omega) (by have := hG.c18; omega)
  have b := hG.c18
  have ey := nI_toInt (n := (z 18).toNatClampNeg) (by omega)
  rw [← y1] at ey
  have b18 : mlo 18 ≤ (z 18 - 1).toInt ∧ (z 18 - 1).toInt ≤ mhi 18 := by
    rw [ez, show mlo 18 = 0 from rfl, show mhi 18 = 6 from rfl]
    omega
  obtain ⟨zf', w', e1, e2, e3, e4, e5⟩ := rz_loop (zc := iv 12) (c := (z 18).toNatClampNeg) (by rw [zc]) z rfl y2 (by omega) (m_keep svm z zv) 21 44 (ix.toNatClampNeg * 4) (av 3) (upd z 18 (z 18 - 1)) (by omega) (by omega) (by omega) (fun j hj => by rw [upd_o _ _ _ (by omega)]; exact zf j hj) (mG.upd hG fun _ => b18)
  have w18 : w' 18 = z 18 - 1 := by rw [e5 18 (by omega), upd_s]
  have o : ∀ q, q < 18 ∨ 43 ≤ q → w' q = z q := fun q hq => by rw [e5 q (by omega), upd_o _ _ _ (by omega)]
  refine ⟨z 18 - 1, zf', w', ?_, ?_, ⟨?_, ?_⟩, fun hb => hb.up fun q hq => o q (by omega)⟩
  · unfold m_removeZone
    simp only [spLet_x]
    rw [hin, if_neg (by decide), Nat.mul_comm 4, e2, w18]
  · have hx : x_X7_remove (iv 12) (av 3) ix = (z 18 - 1, zf') := by
      unfold x_X7_remove
      rw [if_neg (by omega), if_neg (by rw [zc]; omega), if_pos (by rw [zc]; exact y2), e1, zc]
    unfold x_X8_removeZone
    simp only [spLet_x, hx]
  · obtain ⟨a0, a1, a2, a3, a4, a5, a6, a7, a8, a9, a10⟩ := hn
    refine ⟨?_, ?_, ?_, ?_, ?_, ?_, ?_, ?_, ?_, ?_, ?_⟩ <;> (rw [ivu_o _ _ _ (by omega), o _ (by omega)]; assumption)
  · exact hr.re (zc' := z 18 - 1) (zf' := zf') (hr.1.up fun q hq => o q (by omega)) ⟨w18.symm, e3⟩ e4 fun q hq => o q (by omega)
theorem q_removeZone_1 (h : relSt iv av z) {ix : Int32} (h1 : ¬ okI ix (iv 12)) (svm : Int32) (zv : Nat → Int32) : m_removeZone svm z zv ix = (0, svm, 1, z, zv) := by
  have hin := in_0 (fun k => h1 ((okI_z h).mpr k))
  unfold m_removeZone m_fails
  simp only [spLet_x]
  rw [hin, if_pos rfl]
end CH
