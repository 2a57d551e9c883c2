/-! moving keeps the ranges -/
theorem move_G {zs : Nat → Int32} (h : mG zs) (mm mr : Int32) (zp : Nat → Int32) (mos : Int32) : mG (m_move mm mr zs zp mos).2.2.2.1 := by
  have key : ∀ (n : Nat) (v : Int32) (k : Nat) (a b : Int32) (w p : Nat → Int32), mG w → k ≤ 8 → 8 < k + n → mG (spIter (fun _ _ _ _ _ _ => default) (m_move_b4 mos) n v k a b w p).2.2.2.1 := by
    intro n
    induction n with
    | zero => intro v k a b w p h0 h1 h2; omega
    | succ n ih =>
      intro v k a b w p hw h1 h2
      show mG (m_move_b4 mos (spIter (fun _ _ _ _ _ _ => default) (m_move_b4 mos) n) v k a b w p).2.2.2.1
      generalize spIter (fun _ _ _ _ _ _ => default) (m_move_b4 mos) n = R at ih ⊢
      unfold m_move_b4
      simp only [spLet_x, m_move_j61]
      split
      · exact hw
      · split
        · split
          · split
            · exact ih _ _ _ _ _ _ (log_G hw _ _) (by omega) (by omega)
            · exact ih _ _ _ _ _ _ hw (by omega) (by omega)
          · exact ih _ _ _ _ _ _ (carry_G hw _) (by omega) (by omega)
        · exact ih _ _ _ _ _ _ hw (by omega) (by omega)
  exact key 9 0 0 mm mr zs zp h (by omega) (by omega)

