/-! logging keeps the ranges -/
theorem log_j61_G {w : Nat → Int32} (h : mG w) (h3 : (w 143).toInt < 30) (kd vl : Int32) : mG (m_log_j61 kd vl w) := by
  unfold m_log_j61
  simp only [spLet_x]
  have c := h.c143
  refine mG.upd (mG.upd (mG.upd (mG.upd h fun _ => mfree (by omega) _) fun _ => mfree (by omega) _) fun _ => mfree (by omega) _) fun _ => ?_
  rw [pk_un (by omega), pk_un (by omega), pk_un (by omega), zadd rfl (show ((1 : Int32)).toInt = 1 by decide) (by omega) (by omega)]
  exact ⟨by show (0 : Int) ≤ _; omega, by show _ ≤ (30 : Int); omega⟩
theorem log_G {zs : Nat → Int32} (h : mG zs) (kd vl : Int32) : mG (m_log zs kd vl) := by
  have key : ∀ (n i : Nat) (w : Nat → Int32), i ≤ 87 → 87 < i + n → mG w → 0 < (w 143).toInt → mG (spIter (fun _ _ => default) (m_log_b15 kd vl) n i w) := by
    intro n
    induction n with
    | zero => intro i w h1 h2; omega
    | succ n ih =>
      intro i w h1 h2 hw q
      show mG (m_log_b15 kd vl (spIter (fun _ _ => default) (m_log_b15 kd vl) n) i w)
      generalize spIter (fun _ _ => default) (m_log_b15 kd vl) n = R at ih ⊢
      unfold m_log_b15
      simp only [spLet_x]
      split
      · have c := hw.c143
        have e : (w 143 - 1).toInt = (w 143).toInt - 1 := zsub rfl (show ((1 : Int32)).toInt = 1 by decide) (by omega) (by omega)
        refine log_j61_G (mG.upd hw fun _ => ?_) (by rw [pk_us, e]; omega) kd vl
        rw [e]
        exact ⟨by show (0 : Int) ≤ _; omega, by show _ ≤ (30 : Int); omega⟩
      · exact ih (i + 1) _ (by omega) (by omega) (mG.upd hw fun _ => mfree (by omega) _) (by rw [pk_un (by omega)]; exact q)
  unfold m_log
  have e := nI_cl (a := zs 143) h.c143.1
  have c := h.c143
  split
  · next q => exact key 88 0 zs (by omega) (by omega) h (by omega)
  · next q => exact log_j61_G h (by omega) kd vl

