/-! single cells of the reference -/
theorem mG.zones {zs : Nat → Int32} (h : mG zs) : zs 18 = nI (zs 18).toNatClampNeg ∧ (zs 18).toNatClampNeg ≤ 6 := by
  have a := h.c18
  have b := nI_cl (a := zs 18) a.1
  exact ⟨b.1, by omega⟩
theorem mG.ev {zs : Nat → Int32} (h : mG zs) : zs 143 = nI (zs 143).toNatClampNeg ∧ (zs 143).toNatClampNeg ≤ 30 := by
  have a := h.c143
  have b := nI_cl (a := zs 143) a.1
  exact ⟨b.1, by omega⟩
theorem mG.outr {zs : Nat → Int32} (h : mG zs) {k : Nat} (hk : k < 4) : 0 ≤ (zs (43 + k)).toInt ∧ (zs (43 + k)).toInt ≤ 2 := by
  rcases (show k = 0 ∨ k = 1 ∨ k = 2 ∨ k = 3 by omega) with rfl | rfl | rfl | rfl <;> exact h _ (by omega)
theorem tableAt_r {zs : Nat → Int32} (h : mG zs) (sl : Int32) : 0 ≤ (m_tableAt zs sl).toInt ∧ (m_tableAt zs sl).toInt ≤ 3 := by
  have key : ∀ (n : Nat) (v : Int32) (k : Nat), 0 ≤ v.toInt ∧ v.toInt ≤ 3 → 0 ≤ (spIter (fun _ _ => default) (m_tableAt_b4 zs sl) n v k).toInt ∧ (spIter (fun _ _ => default) (m_tableAt_b4 zs sl) n v k).toInt ≤ 3 := by
    intro n
    induction n with
    | zero => intro v k _; show 0 ≤ (default : Int32).toInt ∧ (default : Int32).toInt ≤ 3; exact ⟨by decide, by decide⟩
    | succ n ih =>
      intro v k hv
      show 0 ≤ (m_tableAt_b4 zs sl (spIter (fun _ _ => default) (m_tableAt_b4 zs sl) n) v k).toInt ∧ (m_tableAt_b4 zs sl (spIter (fun _ _ => default) (m_tableAt_b4 zs sl) n) v k).toInt ≤ 3
      generalize spIter (fun _ _ => default) (m_tableAt_b4 zs sl) n = R at ih ⊢
      unfold m_tableAt_b4
      simp only [spLet_x, m_tableAt_j55]
      split
      · exact hv
      · next hk =>
        split
        · split
          · exact ih _ _ hv
          · refine ih _ _ ?_
            rw [lesser_r]
            have := h.outr (k := k) (by omega)
            omega
        · exact hv
  exact key 5 3 0 ⟨by decide, by decide⟩
theorem tableAt_n {zs : Nat → Int32} (h : mG zs) (sl : Int32) : m_tableAt zs sl = nI (m_tableAt zs sl).toNatClampNeg ∧ (m_tableAt zs sl).toNatClampNeg < 4 := by
  have a := tableAt_r h sl
  have b := nI_cl (a := m_tableAt zs sl) a.1
  exact ⟨b.1, by omega⟩
theorem log_j1 {w f zs : Nat → Int32} {x : Int32} (ef : f = upd w 143 x) (ex : x = w 143 - 1) (h : w 143 = zs 143) (hz : zs 143 = nI (zs 143).toNatClampNeg) (h30 : (zs 143).toNatClampNeg = 30) : f 143 = nI (f 143).toNatClampNeg ∧ (f 143).toNatClampNeg < 30 := by
  have e : f 143 = nI 29 := by
    rw [ef, pk_us, ex, h, hz, h30]
    decide
  rw [e]
  exact ⟨by decide, by decide⟩
theorem mfree {k : Nat} (h : 144 ≤ k) (v : Int32) : mlo k ≤ v.toInt ∧ v.toInt ≤ mhi k := by
  have hr := fb_rng v
  have e1 : mlo k = -2147483648 := by unfold mlo; rw [if_neg (by omega), if_neg (by omega), if_neg (by omega)]
  have e2 : mhi k = 2147483647 := by unfold mhi; rw [if_neg (by omega), if_neg (by omega), if_neg (by omega), if_neg (by omega), if_neg (by omega), if_neg (by omega), if_neg (by omega), if_neg (by omega), if_neg (by omega), if_neg (by omega), if_neg (by omega), if_neg (by omega), if_neg (by omega), if_neg (by omega), if_neg (by omega), if_neg (by omega), if_neg (by omega), if_neg (by omega), if_neg (by omega), if_neg (by omega)]
  omega
theorem mfree8 (v : Int32) : mlo 8 ≤ v.toInt ∧ v.toInt ≤ mhi 8 := by
  have hr := fb_rng v
  exact ⟨hr.1, by show _ ≤ (2147483647 : Int); omega⟩
theorem mfree11 (v : Int32) : mlo 11 ≤ v.toInt ∧ v.toInt ≤ mhi 11 := by
  have hr := fb_rng v
  exact ⟨hr.1, by show _ ≤ (2147483647 : Int); omega⟩

