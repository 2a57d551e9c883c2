def m_undo_b30 (zv : Nat → Int32) (x_2 : Int32) (rec30 : Nat → (Nat → Int32) → (Int32 × Int32 × Int32 × (Nat → Int32))) : Nat → (Nat → Int32) → (Int32 × Int32 × Int32 × (Nat → Int32)) :=
  fun k1_30 w1_a_30 => if 246 ≤ k1_30 then ((x_2, x_2, (0 : Int32), w1_a_30)) else (spLet ((zv ((246 * (x_2).toNatClampNeg) + k1_30))) (fun x_5 => spLet (upd w1_a_30 (k1_30) x_5) (fun f_6 => rec30 (k1_30 + 1) f_6)))
def m_undo (svc : Int32) (zs : Nat → Int32) (zv : Nat → Int32) : Int32 × Int32 × Int32 × (Nat → Int32) :=
  if svc.toNatClampNeg = 0 then (spLet (m_fails (1 : Int32)) (fun u_7 => ((u_7.1), svc, (u_7.2), zs))) else (spLet ((svc - (1 : Int32))) (fun x_2 => spIter (fun _ _ => default) (m_undo_b30 zv x_2) 247 0 zs))
set_option maxHeartbeats 1000000 in
set_option maxRecDepth 100000 in
theorem c_X9_undo (l : Launch) (dC : Nat → ClassId) (dI : Nat → Nat → Nat) (cyI : ClassId) (sz : Nat) (q0 : Nat) (q1 : Nat) (q2 : Nat) (q3 : Nat) (q4 : Nat) (q5 : Nat) (q6 : Nat) (svc : Int32) (tl : Int32) (cde : Int32) (mm : Int32) (mr : Int32) (ati : Int32) (ors : Int32) (zs : Nat → Int32) (zv : Nat → Int32) (zt : Nat → Int32) (zp : Nat → Int32) (zm : Nat → Int32) (zk : Nat → Int32) (hsv : svc = nI svc.toNatClampNeg) (hs4 : svc.toNatClampNeg ≤ 4) : Met l yX9_undo wqX9_undo ({ frames := 1, cells := 0, slots := 0, locals := 21 } : Room) (va_Pc [.ref q0] (pC (dC, dI) [(q0, .inr (9, [.ref q1, .ref q2, .int svc, .ref q3, .int tl, .int cde, .int mm, .int mr, .ref q4, .int ati, .int ors, .ref q5, .ref q6])), (q1, .inl (cyI, 246, .inl zs)), (q2, .inl (cyI, 984, .inl zv)), (q3, .inl (cyI, 80, .inl zt)), (q4, .inl (cyI, 5, .inl zp)), (q5, .inl (cyI, 40, .inl zm)), (q6, .inl (cyI, 40, .inl zk))] [(cyI, .int)] eM sz)) (va_Qi (fun (r : Int32) (u : Int32 × Int32 × Int32 × (Nat → Int32)) => u = (m_undo svc zs zv) ∧ r = u.1) (fun (u : Int32 × Int32 × Int32 × (Nat → Int32)) t => va_P (dC, dI) vwCl [(q0, .inr (9, [.ref q1, .ref q2, .int (u.2.1), .ref q3, .int tl, .int (u.2.2.1), .int mm, .int mr, .ref q4, .int ati, .int ors, .ref q5, .ref q6])), (q1, .inl (cyI, 246, .inl (u.2.2.2))), (q2, .inl (cyI, 984, .inl zv)), (q3, .inl (cyI, 80, .inl zt)), (q4, .inl (cyI, 5, .inl zp)), (q5, .inl (cyI, 40, .inl zm)), (q6, .inl (cyI, 40, .inl zk))] t.heap ∧ va_D (va_A [(q0, .inr (9, [.ref q1, .ref q2, .int svc, .ref q3, .int tl, .int cde, .int mm, .int mr, .ref q4, .int ati, .int ors, .ref q5, .ref q6])), (q1, .inl (cyI, 246, .inl zs)), (q2, .inl (cyI, 984, .inl zv)), (q3, .inl (cyI, 80, .inl zt)), (q4, .inl (cyI, 5, .inl zp)), (q5, .inl (cyI, 40, .inl zm)), (q6, .inl (cyI, 40, .inl zk))] sz) [(q0, .inr (9, [.ref q1, .ref q2, .int (u.2.1), .ref q3, .int tl, .int (u.2.2.1), .int mm, .int mr, .ref q4, .int ati, .int ors, .ref q5, .ref q6])), (q1, .inl (cyI, 246, .inl (u.2.2.2))), (q2, .inl (cyI, 984, .inl zv)), (q3, .inl (cyI, 80, .inl zt)), (q4, .inl (cyI, 5, .inl zp)), (q5, .inl (cyI, 40, .inl zm)), (q6, .inl (cyI, 40, .inl zk))]) (va_A [(q0, .inr (9, [.ref q1, .ref q2, .int svc, .ref q3, .int tl, .int cde, .int mm, .int mr, .ref q4, .int ati, .int ors, .ref q5, .ref q6])), (q1, .inl (cyI, 246, .inl zs)), (q2, .inl (cyI, 984, .inl zv)), (q3, .inl (cyI, 80, .inl zt)), (q4, .inl (cyI, 5, .inl zp)), (q5, .inl (cyI, 40, .inl zm)), (q6, .inl (cyI, 40, .inl zk))] sz)) 0 0 (va_A [(q0, .inr (9, [.ref q1, .ref q2, .int svc, .ref q3, .int tl, .int cde, .int mm, .int mr, .ref q4, .int ati, .int ors, .ref q5, .ref q6])), (q1, .inl (cyI, 246, .inl zs)), (q2, .inl (cyI, 984, .inl zv)), (q3, .inl (cyI, 80, .inl zt)), (q4, .inl (cyI, 5, .inl zp)), (q5, .inl (cyI, 40, .inl zm)), (q6, .inl (cyI, 40, .inl zk))] sz) := by
  refine Met.ofW (cc := cX9_undo) (maxL := 2) (ret := (some .int)) (by decide) rfl ?_
  intro p e s m args below meth c s₁ B hml hv
  obtain ⟨rfl, hsz, hP, hK, hD0, he⟩ := hv
  have hx := B.exec
  have hb := B.bytes
  have hr := B.returns
  have hts := atoms_spec (ws := wqX9_undo) B.pre
  have hown : s.vm.findClass RX9 = some m.cls := findClass_of_methodNamed B.named
  have hlocks := B.notSynchronized
  have w_0 := hts (Cond.fieldLink RX9 28 "CraneLimiterModel" "code" "I") (List.mem_cons_of_mem _ b_181)
  have w_1 := hts (Cond.fieldLink RX9 32 "CraneLimiterModel" "savedCount" "I") (List.mem_cons_of_mem _ b_197)
  have w_2 := hts (Cond.fieldLink RX9 7 "CraneLimiterModel" "s" "[I") (List.mem_cons_of_mem _ b_93)
  have w_3 := hts (Cond.fieldLink RX9 13 "CraneLimiterModel" "saved" "[I") (List.mem_cons_of_mem _ b_94)
  have i_X9 : ∀ w ∈ u_ws RX9 TX9 13, w ∈ wqX9_undo := fun w h => List.mem_cons_of_mem _ (bX9 w h)
  subst hsz
  have hD := hD0.self (sz := s.heap.size)
  generalize hAe : va_A [(q0, .inr (9, [.ref q1, .ref q2, .int svc, .ref q3, .int tl, .int cde, .int mm, .int mr, .ref q4, .int ati, .int ors, .ref q5, .ref q6])), (q1, .inl (cyI, 246, .inl zs)), (q2, .inl (cyI, 984, .inl zv)), (q3, .inl (cyI, 80, .inl zt)), (q4, .inl (cyI, 5, .inl zp)), (q5, .inl (cyI, 40, .inl zm)), (q6, .inl (cyI, 40, .inl zk))] s.heap.size = A at hD he ⊢
  have hA : ∀ q : Nat, s.heap.size ≤ q → A q := fun q h => by rw [← hAe]; exact Or.inr h
  have hS : va_S A s.heap s.heap [] := va_S.rf
  have hP : va_P (dC, dI) vwCl [(q0, .inr (9, [.ref q1, .ref q2, .int svc, .ref q3, .int tl, .int cde, .int mm, .int mr, .ref q4, .int ati, .int ors, .ref q5, .ref q6])), (q1, .inl (cyI, 246, .inl zs)), (q2, .inl (cyI, 984, .inl zv)), (q3, .inl (cyI, 80, .inl zt)), (q4, .inl (cyI, 5, .inl zp)), (q5, .inl (cyI, 40, .inl zm)), (q6, .inl (cyI, 40, .inl zk))] s.heap := hP
  have hl := lv_entry ([.ref q0] : List Value) (n := 2) (Nat.le_of_ble_eq_true rfl)
  rw [lg_entry_eq]
  generalize (lg_sl ([.ref q0] : List Value) ++ List.replicate (2 - (lg_sl ([.ref q0] : List Value)).length) Slot.unset).toArray = ls at hl ⊢
  have hl : lv_has ls 2 [(0, .ref q0)] := hl
  have hE : m_undo svc zs zv = m_undo svc zs zv := rfl
  refine lv_aload_n hx hb dX9_undo_0 rfl (lv_at hl 0 rfl) ?_
  refine lv_iconst (v := 0) hx hb dX9_undo_1 (by decide) ?_
  refine va_put (D := (dC, dI)) (ci := 9) (v := .int (0 : Int32)) (ty := .int) (C := RX9) (T := TX9) (N := 13) hx hb hts i_X9 tyX9 tyX9_ok nmX9 hown hK hP hD hS 0 rfl rfl 5 (by decide) w_0 (fun _ h9 => h9) rfl (by decide +kernel) (rfl) (rfl) (Nat.le_of_ble_eq_true rfl) dX9_undo_2 (fun H locs hP hD hS => ?_)
  have hP : va_P (dC, dI) vwCl [(q0, .inr (9, [.ref q1, .ref q2, .int svc, .ref q3, .int tl, .int (0 : Int32), .int mm, .int mr, .ref q4, .int ati, .int ors, .ref q5, .ref q6])), (q1, .inl (cyI, 246, .inl zs)), (q2, .inl (cyI, 984, .inl zv)), (q3, .inl (cyI, 80, .inl zt)), (q4, .inl (cyI, 5, .inl zp)), (q5, .inl (cyI, 40, .inl zm)), (q6, .inl (cyI, 40, .inl zk))] H := hP
  have hD : va_D A [(q0, .inr (9, [.ref q1, .ref q2, .int svc, .ref q3, .int tl, .int (0 : Int32), .int mm, .int mr, .ref q4, .int ati, .int ors, .ref q5, .ref q6])), (q1, .inl (cyI, 246, .inl zs)), (q2, .inl (cyI, 984, .inl zv)), (q3, .inl (cyI, 80, .inl zt)), (q4, .inl (cyI, 5, .inl zp)), (q5, .inl (cyI, 40, .inl zm)), (q6, .inl (cyI, 40, .inl zk))] := hD
  refine lv_aload_n hx hb dX9_undo_5 rfl (lv_at hl 0 rfl) ?_
  refine va_get (D := (dC, dI)) (ci := 9) (v := .int svc) (C := RX9) (T := TX9) (N := 13) hx hb hts i_X9 hown hK hP 0 rfl rfl 2 (by decide) w_1 (fun _ h9 => h9) rfl dX9_undo_6 ?_
  refine lv_if_ne (tgt := 18) hx hb dX9_undo_9 (by decide) (fun c_1 => ?_) (fun c_1 => ?_)
  ·
    have c_1 : ¬ svc.toNatClampNeg = 0 := by
      have h1 : (svc) = nI svc.toNatClampNeg := hsv
      have h2 : ((0 : Int32)) = nI 0 := rfl
      have h3 : ¬ (nI svc.toNatClampNeg = nI 0) := by first | exact c_1 | (rw [← h1, ← h2]; exact c_1)
      exact fun h => h3 ((nI_eq (by omega) (by omega)).mpr h)
    have hE := hE.trans (if_neg c_1)
    refine lv_aload_n hx hb dX9_undo_18 rfl (lv_at hl 0 rfl) ?_
    refine lv_dup hx hb dX9_undo_19 rfl ?_
    refine va_get (D := (dC, dI)) (ci := 9) (v := .int svc) (C := RX9) (T := TX9) (N := 13) hx hb hts i_X9 hown hK hP 0 rfl rfl 2 (by decide) w_1 (fun _ h9 => h9) rfl dX9_undo_20 ?_
    refine lv_iconst (v := 1) hx hb dX9_undo_23 (by decide) ?_
    refine lv_isub hx hb dX9_undo_24 ?_
    refine lv_topi (fun x_2 ex_2 => ?_)
    have hE := hE.trans (spLet_eq ex_2)
    refine va_put (D := (dC, dI)) (ci := 9) (v := .int x_2) (ty := .int) (C := RX9) (T := TX9) (N := 13) hx hb hts i_X9 tyX9 tyX9_ok nmX9 hown hK hP hD hS 0 rfl rfl 2 (by decide) w_1 (fun _ h9 => h9) rfl (by decide +kernel) (rfl) (rfl) (Nat.le_of_ble_eq_true rfl) dX9_undo_25 (fun H locs hP hD hS => ?_)
    have hP : va_P (dC, dI) vwCl [(q0, .inr (9, [.ref q1, .ref q2, .int x_2, .ref q3, .int tl, .int (0 : Int32), .int mm, .int mr, .ref q4, .int ati, .int ors, .ref q5, .ref q6])), (q1, .inl (cyI, 246, .inl zs)), (q2, .inl (cyI, 984, .inl zv)), (q3, .inl (cyI, 80, .inl zt)), (q4, .inl (cyI, 5, .inl zp)), (q5, .inl (cyI, 40, .inl zm)), (q6, .inl (cyI, 40, .inl zk))] H := hP
    have hD : va_D A [(q0, .inr (9, [.ref q1, .ref q2, .int x_2, .ref q3, .int tl, .int (0 : Int32), .int mm, .int mr, .ref q4, .int ati, .int ors, .ref q5, .ref q6])), (q1, .inl (cyI, 246, .inl zs)), (q2, .inl (cyI, 984, .inl zv)), (q3, .inl (cyI, 80, .inl zt)), (q4, .inl (cyI, 5, .inl zp)), (q5, .inl (cyI, 40, .inl zm)), (q6, .inl (cyI, 40, .inl zk))] := hD
    have hs1 := un_n hsv hs4 (by assumption) ex_2
    have hs2 := hs1.2
    refine lv_iconst (v := 0) hx hb dX9_undo_28 (by decide) ?_
    refine lv_istore_n (lv' := [(1, .int (0 : Int32)), (0, .ref q0)]) hx hb dX9_undo_29 rfl hl (by decide) rfl (fun ls hl => ?_)
    have L30 : ∀ (n30 : Nat) (k1_30 : Nat) (w1_a_30 : Nat → Int32) (hi : k1_30 ≤ 246 ∧ 246 < k1_30 + n30) (H : Heap) (locs : List Loc) (hP : va_P (dC, dI) vwCl [(q0, .inr (9, [.ref q1, .ref q2, .int x_2, .ref q3, .int tl, .int (0 : Int32), .int mm, .int mr, .ref q4, .int ati, .int ors, .ref q5, .ref q6])), (q1, .inl (cyI, 246, .inl w1_a_30)), (q2, .inl (cyI, 984, .inl zv)), (q3, .inl (cyI, 80, .inl zt)), (q4, .inl (cyI, 5, .inl zp)), (q5, .inl (cyI, 40, .inl zm)), (q6, .inl (cyI, 40, .inl zk))] H) (hD : va_D A [(q0, .inr (9, [.ref q1, .ref q2, .int x_2, .ref q3, .int tl, .int (0 : Int32), .int mm, .int mr, .ref q4, .int ati, .int ors, .ref q5, .ref q6])), (q1, .inl (cyI, 246, .inl w1_a_30)), (q2, .inl (cyI, 984, .inl zv)), (q3, .inl (cyI, 80, .inl zt)), (q4, .inl (cyI, 5, .inl zp)), (q5, .inl (cyI, 40, .inl zm)), (q6, .inl (cyI, 40, .inl zk))]) (hS : va_S A s.heap H locs) (ls : Array Slot) (hl : lv_has ls 2 [(0, .ref q0), (1, .int (nI k1_30))]) (hE : (m_undo svc zs zv) = spIter (fun _ _ => default) (m_undo_b30 zv x_2) n30 k1_30 w1_a_30), W p l e (headSpec wqX9_undo ({ frames := 1, cells := 0, slots := 0, locals := 21 } : Room)).room s m ([.ref q0] : List Value).toArray below meth c H locs 0 0 (MQ below (va_Qi (fun (r : Int32) (u : Int32 × Int32 × Int32 × (Nat → Int32)) => u = (m_undo svc zs zv) ∧ r = u.1) (fun (u : Int32 × Int32 × Int32 × (Nat → Int32)) t => va_P (dC, dI) vwCl [(q0, .inr (9, [.ref q1, .ref q2, .int (u.2.1), .ref q3, .int tl, .int (u.2.2.1), .int mm, .int mr, .ref q4, .int ati, .int ors, .ref q5, .ref q6])), (q1, .inl (cyI, 246, .inl (u.2.2.2))), (q2, .inl (cyI, 984, .inl zv)), (q3, .inl (cyI, 80, .inl zt)), (q4, .inl (cyI, 5, .inl zp)), (q5, .inl (cyI, 40, .inl zm)), (q6, .inl (cyI, 40, .inl zk))] t.heap ∧ va_D A [(q0, .inr (9, [.ref q1, .ref q2, .int (u.2.1), .ref q3, .int tl, .int (u.2.2.1), .int mm, .int mr, .ref q4, .int ati, .int ors, .ref q5, .ref q6])), (q1, .inl (cyI, 246, .inl (u.2.2.2))), (q2, .inl (cyI, 984, .inl zv)), (q3, .inl (cyI, 80, .inl zt)), (q4, .inl (cyI, 5, .inl zp)), (q5, .inl (cyI, 40, .inl zm)), (q6, .inl (cyI, 40, .inl zk))]) A) ([.ref q0] : List Value).toArray s 0 0 A) (F0 m 30 ls []) := by
      intro n30
      induction n30 with
      | zero =>
        intro k1_30 w1_a_30 hi H locs hP hD hS ls hl hE
        exact absurd hi (by omega)
      | succ n30 ih30 =>
        intro k1_30 w1_a_30 hi H locs hP hD hS ls hl hE
        have hE : (m_undo svc zs zv) = m_undo_b30 zv x_2 (spIter (fun _ _ => default) (m_undo_b30 zv x_2) n30) k1_30 w1_a_30 := hE
        refine lv_iload_n hx hb dX9_undo_30 rfl (lv_at hl 1 rfl) ?_
        refine lv_sipush (v := 246) hx hb dX9_undo_31 (by decide) ?_
        refine lv_icmp_ge (tgt := 64) hx hb dX9_undo_34 (by decide) (fun c_3 => ?_) (fun c_3 => ?_)
        ·
          have c_3 : 246 ≤ k1_30 := by
            have h1 : ((nI k1_30)) = nI k1_30 := rfl
            have h2 : ((246 : Int32)) = nI 246 := rfl
            have h3 : (nI 246 ≤ nI k1_30) := by first | exact c_3 | (rw [← h1, ← h2]; exact c_3)
            exact (nI_leI (by omega) (by omega)).mp h3
          have hE := hE.trans (if_pos c_3)
          refine lv_aload_n hx hb dX9_undo_64 rfl (lv_at hl 0 rfl) ?_
          refine va_get (D := (dC, dI)) (ci := 9) (v := .int x_2) (C := RX9) (T := TX9) (N := 13) hx hb hts i_X9 hown hK hP 0 rfl rfl 2 (by decide) w_1 (fun _ h9 => h9) rfl dX9_undo_65 ?_
          exact W.iret (v := x_2) hx hb hr (fun t h9 hW => ⟨⟨x_2, ((x_2, x_2, (0 : Int32), w1_a_30) : Int32 × Int32 × Int32 × (Nat → Int32)), rfl, ⟨hE.symm, rfl⟩, by rw [h9]; exact hP, hD⟩, hS.F h9⟩) hS.2.2 dX9_undo_68
        ·
          have c_3 : ¬ 246 ≤ k1_30 := by
            have h1 : ((nI k1_30)) = nI k1_30 := rfl
            have h2 : ((246 : Int32)) = nI 246 := rfl
            have h3 : ¬ (nI 246 ≤ nI k1_30) := by first | exact c_3 | (rw [← h1, ← h2]; exact c_3)
            exact fun h => h3 ((nI_leI (by omega) (by omega)).mpr h)
          have hE := hE.trans (if_neg c_3)
          refine lv_aload_n hx hb dX9_undo_37 rfl (lv_at hl 0 rfl) ?_
          refine va_get (D := (dC, dI)) (ci := 9) (v := .ref q1) (C := RX9) (T := TX9) (N := 13) hx hb hts i_X9 hown hK hP 0 rfl rfl 0 (by decide) w_2 (fun _ h9 => h9) rfl dX9_undo_38 ?_
          refine lv_iload_n hx hb dX9_undo_41 rfl (lv_at hl 1 rfl) ?_
          refine lv_aload_n hx hb dX9_undo_42 rfl (lv_at hl 0 rfl) ?_
          refine va_get (D := (dC, dI)) (ci := 9) (v := .ref q2) (C := RX9) (T := TX9) (N := 13) hx hb hts i_X9 hown hK hP 0 rfl rfl 1 (by decide) w_3 (fun _ h9 => h9) rfl dX9_undo_43 ?_
          refine lv_sipush (v := 246) hx hb dX9_undo_46 (by decide) ?_
          refine lv_aload_n hx hb dX9_undo_49 rfl (lv_at hl 0 rfl) ?_
          refine va_get (D := (dC, dI)) (ci := 9) (v := .int x_2) (C := RX9) (T := TX9) (N := 13) hx hb hts i_X9 hown hK hP 0 rfl rfl 2 (by decide) w_1 (fun _ h9 => h9) rfl dX9_undo_50 ?_
          refine lv_imul hx hb dX9_undo_53 ?_
          refine lv_topi (fun y_4 ey_4 => ?_)
          obtain rfl : y_4 = nI (246 * (x_2).toNatClampNeg) := ey_4.trans (nmul (rfl : (246 : Int32) = nI 246) hs1.1)
          refine lv_iload_n hx hb dX9_undo_54 rfl (lv_at hl 1 rfl) ?_
          refine lv_iadd hx hb dX9_undo_55 ?_
          refine ra_ld hx hb hK hP 2 0 rfl rfl (j := ((246 * (x_2).toNatClampNeg) + k1_30)) (nadd (rfl : (nI (246 * (x_2).toNatClampNeg)) = nI (246 * (x_2).toNatClampNeg)) (rfl : (nI k1_30) = nI k1_30)) (by omega) (by omega) dX9_undo_56 ?_
          refine lv_topi (fun x_5 ex_5 => ?_)
          have hE := hE.trans (spLet_eq ex_5)
          refine ra_st hx hb hK hP hD hS 1 0 rfl rfl (j := k1_30) (rfl : (nI k1_30) = nI k1_30) (by omega) (by omega) dX9_undo_57 (fun H locs hP hD hS => ?_)
          have hP : va_P (dC, dI) vwCl [(q0, .inr (9, [.ref q1, .ref q2, .int x_2, .ref q3, .int tl, .int (0 : Int32), .int mm, .int mr, .ref q4, .int ati, .int ors, .ref q5, .ref q6])), (q1, .inl (cyI, 246, .inl (upd w1_a_30 (k1_30) x_5))), (q2, .inl (cyI, 984, .inl zv)), (q3, .inl (cyI, 80, .inl zt)), (q4, .inl (cyI, 5, .inl zp)), (q5, .inl (cyI, 40, .inl zm)), (q6, .inl (cyI, 40, .inl zk))] H := hP
          have hD : va_D A [(q0, .inr (9, [.ref q1, .ref q2, .int x_2, .ref q3, .int tl, .int (0 : Int32), .int mm, .int mr, .ref q4, .int ati, .int ors, .ref q5, .ref q6])), (q1, .inl (cyI, 246, .inl (upd w1_a_30 (k1_30) x_5))), (q2, .inl (cyI, 984, .inl zv)), (q3, .inl (cyI, 80, .inl zt)), (q4, .inl (cyI, 5, .inl zp)), (q5, .inl (cyI, 40, .inl zm)), (q6, .inl (cyI, 40, .inl zk))] := hD
          obtain ⟨f_6, ef_6⟩ : ∃ y : Nat → Int32, y = upd w1_a_30 (k1_30) x_5 := ⟨_, rfl⟩
          rw [← ef_6] at hP hD
          have hE := hE.trans (spLet_eq ef_6)
          refine lv_iinc (v := (nI (k1_30 + 1))) (lv' := [(1, .int (nI (k1_30 + 1))), (0, .ref q0)]) hx hb dX9_undo_58 hl (k := 1) rfl (show _ from (congrArg (fun z => z + Int32.ofInt 1) (rfl)).trans (ninc _ 1)) (by decide) rfl (fun ls hl => ?_)
          refine lv_goto (tgt := 30) hx hb dX9_undo_61 (by decide) ?_
          exact ih30 (k1_30 + 1) f_6 (by omega) _ _ hP hD hS ls (lv_sub hl [1, 0] rfl) hE
    exact L30 247 0 zs (by omega) _ _ hP hD hS ls (lv_sub hl [1, 0] rfl) hE
  ·
    have c_1 : svc.toNatClampNeg = 0 := by
      have h1 : (svc) = nI svc.toNatClampNeg := hsv
      have h2 : ((0 : Int32)) = nI 0 := rfl
      have h3 : (nI svc.toNatClampNeg = nI 0) := by first | exact c_1 | (rw [← h1, ← h2]; exact c_1)
      exact (nI_eq (by omega) (by omega)).mp h3
    have hE := hE.trans (if_pos c_1)
    refine lv_aload_n hx hb dX9_undo_12 rfl (lv_at hl 0 rfl) ?_
    refine lv_iconst (v := 1) hx hb dX9_undo_13 (by decide) ?_
    refine mj_i (wr := []) (va_runV (As := [.int (1 : Int32)]) (rest := []) ⟨hx, hb, hml, hown, hts⟩ (c_X9_fails l dC dI cyI H.size q0 q1 q2 q3 q4 q5 q6 svc tl (0 : Int32) mm mr ati ors zs zv zt zp zm zk (1 : Int32)) (cwV 1 hts (gBV b_185 b_186 b_187 b_5 b_188) rfl rfl rfl (by decide +kernel) ⟨Nat.le_of_ble_eq_true rfl, Nat.le_of_ble_eq_true rfl⟩) (prm_v eM_ok he hS hP hD hK (va_free (wc := [(q0, .inr (9, [.ref q1, .ref q2, .int svc, .ref q3, .int tl, .int (0 : Int32), .int mm, .int mr, .ref q4, .int ati, .int ors, .ref q5, .ref q6])), (q1, .inl (cyI, 246, .inl zs)), (q2, .inl (cyI, 984, .inl zv)), (q3, .inl (cyI, 80, .inl zt)), (q4, .inl (cyI, 5, .inl zp)), (q5, .inl (cyI, 40, .inl zm)), (q6, .inl (cyI, 40, .inl zk))]) hD hS hA [0, 1, 2, 3, 4, 5, 6] rfl) 0 rfl rfl rfl) rfl rfl hl.1 rfl (lv_room (Nat.le_of_ble_eq_true rfl)) dX9_undo_14 ⟨Nat.le_of_ble_eq_true rfl, Nat.le_of_ble_eq_true rfl⟩) hP hD hS hA [0, 1, 2, 3, 4, 5, 6] [] rfl rfl (by decide) (by decide) (fun r_8 u_7 H locs hw hP hD hS => ?_)
    obtain ⟨hu_7, rfl⟩ := hw
    have hE := hE.trans (spLet_eq hu_7)
    have hP : va_P (dC, dI) vwCl [(q0, .inr (9, [.ref q1, .ref q2, .int svc, .ref q3, .int tl, .int (u_7.2), .int mm, .int mr, .ref q4, .int ati, .int ors, .ref q5, .ref q6])), (q1, .inl (cyI, 246, .inl zs)), (q2, .inl (cyI, 984, .inl zv)), (q3, .inl (cyI, 80, .inl zt)), (q4, .inl (cyI, 5, .inl zp)), (q5, .inl (cyI, 40, .inl zm)), (q6, .inl (cyI, 40, .inl zk))] H := hP
    have hD : va_D A [(q0, .inr (9, [.ref q1, .ref q2, .int svc, .ref q3, .int tl, .int (u_7.2), .int mm, .int mr, .ref q4, .int ati, .int ors, .ref q5, .ref q6])), (q1, .inl (cyI, 246, .inl zs)), (q2, .inl (cyI, 984, .inl zv)), (q3, .inl (cyI, 80, .inl zt)), (q4, .inl (cyI, 5, .inl zp)), (q5, .inl (cyI, 40, .inl zm)), (q6, .inl (cyI, 40, .inl zk))] := hD
    exact W.iret (v := (u_7.1)) hx hb hr (fun t h9 hW => ⟨⟨(u_7.1), (((u_7.1), svc, (u_7.2), zs) : Int32 × Int32 × Int32 × (Nat → Int32)), rfl, ⟨hE.symm, rfl⟩, by rw [h9]; exact hP, hD⟩, hS.F h9⟩) hS.2.2 dX9_undo_17
def m_here (tl : Int32) (ati : Int32) (zt : Nat → Int32) : Int32 :=
  if tl.toNatClampNeg ≤ ati.toNatClampNeg then (-1 : Int32) else ((zt (ati.toNatClampNeg)))
set_option maxHeartbeats 1000000 in
set_option maxRecDepth 100000 in
theorem c_X9_here (l : Launch) (dC : Nat → ClassId) (dI : Nat → Nat → Nat) (cyI : ClassId) (q0 : Nat) (q1 : Nat) (q2 : Nat) (q3 : Nat) (q4 : Nat) (q5 : Nat) (q6 : Nat) (svc : Int32) (tl : Int32) (cde : Int32) (mm : Int32) (mr : Int32) (ati : Int32) (ors : Int32) (zs : Nat → Int32) (zv : Nat → Int32) (zt : Nat → Int32) (zp : Nat → Int32) (zm : Nat → Int32) (zk : Nat → Int32) (htl : tl = nI tl.toNatClampNeg) (ht80 : tl.toNatClampNeg ≤ 80) (hat : ati = nI ati.toNatClampNeg) (ha80 : ati.toNatClampNeg ≤ 80) : Met l yX9_here wqX9_here ({ frames := 0, cells := 0, slots := 0, locals := 0 } : Room) (va_Pc [.ref q0] (pB (dC, dI) [(q0, .inr (9, [.ref q1, .ref q2, .int svc, .ref q3, .int tl, .int cde, .int mm, .int mr, .ref q4, .int ati, .int ors, .ref q5, .ref q6])), (q1, .inl (cyI, 246, .inl zs)), (q2, .inl (cyI, 984, .inl zv)), (q3, .inl (cyI, 80, .inl zt)), (q4, .inl (cyI, 5, .inl zp)), (q5, .inl (cyI, 40, .inl zm)), (q6, .inl (cyI, 40, .inl zk))] [(cyI, .int)] eM)) (vp_Si (fun r => r = (m_here tl ati zt))) 0 0 aF := by
  refine Met.ofW (cc := cX9_here) (maxL := 1) (ret := (some .int)) (by decide) rfl ?_
  intro p e s m args below meth c s₁ B hml hv
  obtain ⟨rfl, hP, hK, he⟩ := hv
  have hx := B.exec
  have hb := B.bytes
  have hr := B.returns
  have hts := atoms_spec (ws := wqX9_here) B.pre
  have hown : s.vm.findClass RX9 = some m.cls := findClass_of_methodNamed B.named
  have hlocks := B.notSynchronized
  have w_0 := hts (Cond.fieldLink RX9 218 "CraneLimiterModel" "at" "I") (List.mem_cons_of_mem _ b_979)
  have w_1 := hts (Cond.fieldLink RX9 215 "CraneLimiterModel" "textLength" "I") (List.mem_cons_of_mem _ b_921)
  have w_2 := hts (Cond.fieldLink RX9 16 "CraneLimiterModel" "text" "[I") (List.mem_cons_of_mem _ b_95)
  have i_X9 : ∀ w ∈ u_ws RX9 TX9 13, w ∈ wqX9_here := fun w h => List.mem_cons_of_mem _ (bX9 w h)
  have hS : va_S aF s.heap s.heap [] := va_S.rf
  have hP : va_P (dC, dI) vwCl [(q0, .inr (9, [.ref q1, .ref q2, .int svc, .ref q3, .int tl, .int cde, .int mm, .int mr, .ref q4, .int ati, .int ors, .ref q5, .ref q6])), (q1, .inl (cyI, 246, .inl zs)), (q2, .inl (cyI, 984, .inl zv)), (q3, .inl (cyI, 80, .inl zt)), (q4, .inl (cyI, 5, .inl zp)), (q5, .inl (cyI, 40, .inl zm)), (q6, .inl (cyI, 40, .inl zk))] s.heap := hP
  have hl := lv_entry ([.ref q0] : List Value) (n := 1) (Nat.le_of_ble_eq_true rfl)
  rw [lg_entry_eq]
  generalize (lg_sl ([.ref q0] : List Value) ++ List.replicate (1 - (lg_sl ([.ref q0] : List Value)).length) Slot.unset).toArray = ls at hl ⊢
  have hl : lv_has ls 1 [(0, .ref q0)] := hl
  have hE : m_here tl ati zt = m_here tl ati zt := rfl
  refine lv_aload_n hx hb dX9_here_0 rfl (lv_at hl 0 rfl) ?_
  refine va_get (D := (dC, dI)) (ci := 9) (v := .int ati) (C := RX9) (T := TX9) (N := 13) hx hb hts i_X9 hown hK hP 0 rfl rfl 9 (by decide) w_0 (fun _ h9 => h9) rfl dX9_here_1 ?_
  refine lv_aload_n hx hb dX9_here_4 rfl (lv_at hl 0 rfl) ?_
  refine va_get (D := (dC, dI)) (ci := 9) (v := .int tl) (C := RX9) (T := TX9) (N := 13) hx hb hts i_X9 hown hK hP 0 rfl rfl 4 (by decide) w_1 (fun _ h9 => h9) rfl dX9_here_5 ?_
  refine lv_icmp_ge (tgt := 23) hx hb dX9_here_8 (by decide) (fun c_1 => ?_) (fun c_1 => ?_)
  ·
    have c_1 : tl.toNatClampNeg ≤ ati.toNatClampNeg := by
      have h1 : (ati) = nI ati.toNatClampNeg := hat
      have h2 : (tl) = nI tl.toNatClampNeg := htl
      have h3 : (nI tl.toNatClampNeg ≤ nI ati.toNatClampNeg) := by first | exact c_1 | (rw [← h1, ← h2]; exact c_1)
      exact (nI_leI (by omega) (by omega)).mp h3
    have hE := hE.trans (if_pos c_1)
    refine lv_iconst (v := -1) hx hb dX9_here_23 (by decide) ?_
    exact W.iret (v := (-1 : Int32)) hx hb hr (fun t ht hW => ⟨_, rfl, hE.symm, ht⟩) (fun q h => by cases h) dX9_here_24
  ·
    have c_1 : ¬ tl.toNatClampNeg ≤ ati.toNatClampNeg := by
      have h1 : (ati) = nI ati.toNatClampNeg := hat
      have h2 : (tl) = nI tl.toNatClampNeg := htl
      have h3 : ¬ (nI tl.toNatClampNeg ≤ nI ati.toNatClampNeg) := by first | exact c_1 | (rw [← h1, ← h2]; exact c_1)
      exact fun h => h3 ((nI_leI (by omega) (by omega)).mpr h)
    have hE := hE.trans (if_neg c_1)
    refine lv_aload_n hx hb dX9_here_11 rfl (lv_at hl 0 rfl) ?_
    refine va_get (D := (dC, dI)) (ci := 9) (v := .ref q3) (C := RX9) (T := TX9) (N := 13) hx hb hts i_X9 hown hK hP 0 rfl rfl 3 (by decide) w_2 (fun _ h9 => h9) rfl dX9_here_12 ?_
    refine lv_aload_n hx hb dX9_here_15 rfl (lv_at hl 0 rfl) ?_
    refine va_get (D := (dC, dI)) (ci := 9) (v := .int ati) (C := RX9) (T := TX9) (N := 13) hx hb hts i_X9 hown hK hP 0 rfl rfl 9 (by decide) w_0 (fun _ h9 => h9) rfl dX9_here_16 ?_
    refine ra_ld hx hb hK hP 3 0 rfl rfl (j := ati.toNatClampNeg) hat (by omega) (by omega) dX9_here_19 ?_
    refine lv_goto (tgt := 24) hx hb dX9_here_20 (by decide) ?_
    exact W.iret (v := (zt (ati.toNatClampNeg))) hx hb hr (fun t ht hW => ⟨_, rfl, hE.symm, ht⟩) (fun q h => by cases h) dX9_here_24
def m_digest_b254 (zs : Nat → Int32) (u_4 : Int32 × Int32 × Int32 × (Nat → Int32)) (rec254 : Int64 → Nat → (Int64 × Int32 × Int32 × Int32 × (Nat → Int32))) : Int64 → Nat → (Int64 × Int32 × Int32 × Int32 × (Nat → Int32)) :=
  fun v1_254 k3_254 => if 12 ≤ k3_254 then ((v1_254, (0 : Int32), (u_4.2.1), (u_4.2.2.1), (u_4.2.2.2))) else (spLet ((((31 : Int64) * v1_254) + ((zs (234 + k3_254)).toInt64))) (fun x_13 => rec254 x_13 (k3_254 + 1)))
def m_digest_b214 (zs : Nat → Int32) (u_4 : Int32 × Int32 × Int32 × (Nat → Int32)) (rec214 : Int64 → Nat → (Int64 × Int32 × Int32 × Int32 × (Nat → Int32))) : Int64 → Nat → (Int64 × Int32 × Int32 × Int32 × (Nat → Int32)) :=
  fun v1_214 k3_214 => if (3 * (zs 143).toNatClampNeg) < k3_214 then (spIter (fun _ _ => default) (m_digest_b254 zs u_4) 13 v1_214 0) else (spLet ((((31 : Int64) * v1_214) + ((zs (143 + k3_214)).toInt64))) (fun x_14 => rec214 x_14 (k3_214 + 1)))
def m_digest_b176 (zs : Nat → Int32) (u_4 : Int32 × Int32 × Int32 × (Nat → Int32)) (rec176 : Int64 → Nat → (Int64 × Int32 × Int32 × Int32 × (Nat → Int32))) : Int64 → Nat → (Int64 × Int32 × Int32 × Int32 × (Nat → Int32)) :=
  fun v1_176 k3_176 => if (4 * (zs 18).toNatClampNeg) < k3_176 then (spIter (fun _ _ => default) (m_digest_b214 zs u_4) 92 v1_176 0) else (spLet ((((31 : Int64) * v1_176) + ((zs (18 + k3_176)).toInt64))) (fun x_15 => rec176 x_15 (k3_176 + 1)))
def m_digest_b150 (zs : Nat → Int32) (u_4 : Int32 × Int32 × Int32 × (Nat → Int32)) (rec150 : Int64 → Nat → (Int64 × Int32 × Int32 × Int32 × (Nat → Int32))) : Int64 → Nat → (Int64 × Int32 × Int32 × Int32 × (Nat → Int32)) :=
  fun v1_150 k3_150 => if 4 ≤ k3_150 then (spIter (fun _ _ => default) (m_digest_b176 zs u_4) 26 v1_150 0) else (spLet (m_sumOf zs (k3_150)) (fun r_16 => spLet ((((31 : Int64) * v1_150) + r_16.toInt64)) (fun x_17 => rec150 x_17 (k3_150 + 1))))
def m_digest_b105 (zs : Nat → Int32) (u_4 : Int32 × Int32 × Int32 × (Nat → Int32)) (rec105 : Int64 → Nat → (Int64 × Int32 × Int32 × Int32 × (Nat → Int32))) : Int64 → Nat → (Int64 × Int32 × Int32 × Int32 × (Nat → Int32)) :=
  fun v1_105 k3_105 => if 4 ≤ k3_105 then (spLet ((((31 : Int64) * v1_105) + ((zs 10).toInt64))) (fun x_8 => spIter (fun _ _ => default) (m_digest_b150 zs u_4) 5 x_8 0)) else (spLet ((((31 : Int64) * v1_105) + ((zs (43 + k3_105)).toInt64))) (fun x_18 => rec105 x_18 (k3_105 + 1)))
def m_digest_b54 (zs : Nat → Int32) (zp : Nat → Int32) (rec54 : Int64 → Nat → Int32 → Int32 → (Int64 × Int32 × Int32 × Int32 × (Nat → Int32))) : Int64 → Nat → Int32 → Int32 → (Int64 × Int32 × Int32 × Int32 × (Nat → Int32)) :=
  fun v1_54 k3_54 w0_6_54 w0_7_54 => if 8 ≤ k3_54 then (spLet (m_permittedNow w0_6_54 w0_7_54 zs zp) (fun u_4 => spLet ((((31 : Int64) * (((31 : Int64) * v1_54) + ((u_4.1).toInt64))) + ((zs 5).toInt64))) (fun x_6 => spIter (fun _ _ => default) (m_digest_b105 zs u_4) 5 x_6 0))) else (spLet (m_limiterValue w0_7_54 zs (nI k3_54)) (fun u_19 => spLet ((((31 : Int64) * v1_54) + ((u_19.1).toInt64))) (fun x_21 => rec54 x_21 (k3_54 + 1) (u_19.2.1) (u_19.2.2))))
def m_digest_b27 (mm : Int32) (mr : Int32) (zs : Nat → Int32) (zp : Nat → Int32) (rec27 : Int64 → Nat → (Int64 × Int32 × Int32 × Int32 × (Nat → Int32))) : Int64 → Nat → (Int64 × Int32 × Int32 × Int32 × (Nat → Int32)) :=
  fun v1_27 k3_27 => if 12 ≤ k3_27 then (spIter (fun _ _ _ _ => default) (m_digest_b54 zs zp) 9 v1_27 0 mm mr) else (spLet (m_boomValue zs (nI k3_27)) (fun r_22 => spLet ((((31 : Int64) * v1_27) + r_22.toInt64)) (fun x_23 => rec27 x_23 (k3_27 + 1))))
def m_digest (svc : Int32) (tl : Int32) (mm : Int32) (mr : Int32) (zs : Nat → Int32) (zp : Nat → Int32) : Int64 × Int32 × Int32 × Int32 × (Nat → Int32) :=
  spLet ((((31 : Int64) * ((612653 : Int64) + svc.toInt64)) + tl.toInt64)) (fun x_1 => spIter (fun _ _ => default) (m_digest_b27 mm mr zs zp) 13 x_1 0)
set_option maxHeartbeats 1000000 in
set_option maxRecDepth 100000 in
theorem c_X9_digest (l : Launch) (dC : Nat → ClassId) (dI : Nat → Nat → Nat) (cyI : ClassId) (sz : Nat) (q0 : Nat) (q1 : Nat) (q2 : Nat) (q3 : Nat) (q4 : Nat) (q5 : Nat) (q6 : Nat) (svc : Int32) (tl : Int32) (cde : Int32) (mm : Int32) (mr : Int32) (ati : Int32) (ors : Int32) (zs : Nat → Int32) (zv : Nat → Int32) (zt : Nat → Int32) (zp : Nat → Int32) (zm : Nat → Int32) (zk : Nat → Int32) (hG : mG zs) : Met l yX9_digest wqX9_digest ({ frames := 11, cells := 0, slots := 0, locals := 236 } : Room) (va_Pc [.ref q0] (pC (dC, dI) [(q0, .inr (9, [.ref q1, .ref q2, .int svc, .ref q3, .int tl, .int cde, .int mm, .int mr, .ref q4, .int ati, .int ors, .ref q5, .ref q6])), (q1, .inl (cyI, 246, .inl zs)), (q2, .inl (cyI, 984, .inl zv)), (q3, .inl (cyI, 80, .inl zt)), (q4, .inl (cyI, 5, .inl zp)), (q5, .inl (cyI, 40, .inl zm)), (q6, .inl (cyI, 40, .inl zk))] [(cyI, .int)] eM sz)) (va_Ql (fun (r : Int64) (u : Int64 × Int32 × Int32 × Int32 × (Nat → Int32)) => u = (m_digest svc tl mm mr zs zp) ∧ r = u.1) (fun (u : Int64 × Int32 × Int32 × Int32 × (Nat → Int32)) t => va_P (dC, dI) vwCl [(q0, .inr (9, [.ref q1, .ref q2, .int svc, .ref q3, .int tl, .int (u.2.1), .int (u.2.2.1), .int (u.2.2.2.1), .ref q4, .int ati, .int ors, .ref q5, .ref q6])), (q1, .inl (cyI, 246, .inl zs)), (q2, .inl (cyI, 984, .inl zv)), (q3, .inl (cyI, 80, .inl zt)), (q4, .inl (cyI, 5, .inl (u.2.2.2.2))), (q5, .inl (cyI, 40, .inl zm)), (q6, .inl (cyI, 40, .inl zk))] t.heap ∧ va_D (va_A [(q0, .inr (9, [.ref q1, .ref q2, .int svc, .ref q3, .int tl, .int cde, .int mm, .int mr, .ref q4, .int ati, .int ors, .ref q5, .ref q6])), (q1, .inl (cyI, 246, .inl zs)), (q2, .inl (cyI, 984, .inl zv)), (q3, .inl (cyI, 80, .inl zt)), (q4, .inl (cyI, 5, .inl zp)), (q5, .inl (cyI, 40, .inl zm)), (q6, .inl (cyI, 40, .inl zk))] sz) [(q0, .inr (9, [.ref q1, .ref q2, .int svc, .ref q3, .int tl, .int (u.2.1), .int (u.2.2.1), .int (u.2.2.2.1), .ref q4, .int ati, .int ors, .ref q5, .ref q6])), (q1, .inl (cyI, 246, .inl zs)), (q2, .inl (cyI, 984, .inl zv)), (q3, .inl (cyI, 80, .inl zt)), (q4, .inl (cyI, 5, .inl (u.2.2.2.2))), (q5, .inl (cyI, 40, .inl zm)), (q6, .inl (cyI, 40, .inl zk))]) (va_A [(q0, .inr (9, [.ref q1, .ref q2, .int svc, .ref q3, .int tl, .int cde, .int mm, .int mr, .ref q4, .int ati, .int ors, .ref q5, .ref q6])), (q1, .inl (cyI, 246, .inl zs)), (q2, .inl (cyI, 984, .inl zv)), (q3, .inl (cyI, 80, .inl zt)), (q4, .inl (cyI, 5, .inl zp)), (q5, .inl (cyI, 40, .inl zm)), (q6, .inl (cyI, 40, .inl zk))] sz)) 0 0 (va_A [(q0, .inr (9, [.ref q1, .ref q2, .int svc, .ref q3, .int tl, .int cde, .int mm, .int mr, .ref q4, .int ati, .int ors, .ref q5, .ref q6])), (q1, .inl (cyI, 246, .inl zs)), (q2, .inl (cyI, 984, .inl zv)), (q3, .inl (cyI, 80, .inl zt)), (q4, .inl (cyI, 5, .inl zp)), (q5, .inl (cyI, 40, .inl zm)), (q6, .inl (cyI, 40, .inl zk))] sz) := by
  refine Met.ofW (cc := cX9_digest) (maxL := 4) (ret := (some .long)) (by decide) rfl ?_
  intro p e s m args below meth c s₁ B hml hv
  obtain ⟨rfl, hsz, hP, hK, hD0, he⟩ := hv
  have hx := B.exec
  have hb := B.bytes
  have hr := B.returns
  have hts := atoms_spec (ws := wqX9_digest) B.pre
  have hown : s.vm.findClass RX9 = some m.cls := findClass_of_methodNamed B.named
  have hlocks := B.notSynchronized
  have w_0 := hts (Cond.fieldLink RX9 28 "CraneLimiterModel" "code" "I") (List.mem_cons_of_mem _ b_181)
  have w_1 := hts (Cond.constantLong RX9 243 (31)) (List.mem_cons_of_mem _ b_1049)
  have w_2 := hts (Cond.constantLong RX9 245 (612653)) (List.mem_cons_of_mem _ b_1050)
  have w_3 := hts (Cond.fieldLink RX9 32 "CraneLimiterModel" "savedCount" "I") (List.mem_cons_of_mem _ b_197)
  have w_4 := hts (Cond.fieldLink RX9 215 "CraneLimiterModel" "textLength" "I") (List.mem_cons_of_mem _ b_921)
  have w_5 := hts (Cond.fieldLink RX9 7 "CraneLimiterModel" "s" "[I") (List.mem_cons_of_mem _ b_93)
  have i_X9 : ∀ w ∈ u_ws RX9 TX9 13, w ∈ wqX9_digest := fun w h => List.mem_cons_of_mem _ (bX9 w h)
  subst hsz
  have hD := hD0.self (sz := s.heap.size)
  generalize hAe : va_A [(q0, .inr (9, [.ref q1, .ref q2, .int svc, .ref q3, .int tl, .int cde, .int mm, .int mr, .ref q4, .int ati, .int ors, .ref q5, .ref q6])), (q1, .inl (cyI, 246, .inl zs)), (q2, .inl (cyI, 984, .inl zv)), (q3, .inl (cyI, 80, .inl zt)), (q4, .inl (cyI, 5, .inl zp)), (q5, .inl (cyI, 40, .inl zm)), (q6, .inl (cyI, 40, .inl zk))] s.heap.size = A at hD he ⊢
  have hA : ∀ q : Nat, s.heap.size ≤ q → A q := fun q h => by rw [← hAe]; exact Or.inr h
  have hS : va_S A s.heap s.heap [] := va_S.rf
  have hP : va_P (dC, dI) vwCl [(q0, .inr (9, [.ref q1, .ref q2, .int svc, .ref q3, .int tl, .int cde, .int mm, .int mr, .ref q4, .int ati, .int ors, .ref q5, .ref q6])), (q1, .inl (cyI, 246, .inl zs)), (q2, .inl (cyI, 984, .inl zv)), (q3, .inl (cyI, 80, .inl zt)), (q4, .inl (cyI, 5, .inl zp)), (q5, .inl (cyI, 40, .inl zm)), (q6, .inl (cyI, 40, .inl zk))] s.heap := hP
  have hl := lv_entry ([.ref q0] : List Value) (n := 4) (Nat.le_of_ble_eq_true rfl)
  rw [lg_entry_eq]
  generalize (lg_sl ([.ref q0] : List Value) ++ List.replicate (4 - (lg_sl ([.ref q0] : List Value)).length) Slot.unset).toArray = ls at hl ⊢
  have hl : lv_has ls 4 [(0, .ref q0)] := hl
  have hE : m_digest svc tl mm mr zs zp = m_digest svc tl mm mr zs zp := rfl
  have hz := hG.zones.1
  have hz6 := hG.zones.2
  have hw := hG.ev.1
  have hw30 := hG.ev.2
  refine lv_aload_n hx hb dX9_digest_0 rfl (lv_at hl 0 rfl) ?_
  refine lv_iconst (v := 0) hx hb dX9_digest_1 (by decide) ?_
  refine va_put (D := (dC, dI)) (ci := 9) (v := .int (0 : Int32)) (ty := .int) (C := RX9) (T := TX9) (N := 13) hx hb hts i_X9 tyX9 tyX9_ok nmX9 hown hK hP hD hS 0 rfl rfl 5 (by decide) w_0 (fun _ h9 => h9) rfl (by decide +kernel) (rfl) (rfl) (Nat.le_of_ble_eq_true rfl) dX9_digest_2 (fun H locs hP hD hS => ?_)
  have hP : va_P (dC, dI) vwCl [(q0, .inr (9, [.ref q1, .ref q2, .int svc, .ref q3, .int tl, .int (0 : Int32), .int mm, .int mr, .ref q4, .int ati, .int ors, .ref q5, .ref q6])), (q1, .inl (cyI, 246, .inl zs)), (q2, .inl (cyI, 984, .inl zv)), (q3, .inl (cyI, 80, .inl zt)), (q4, .inl (cyI, 5, .inl zp)), (q5, .inl (cyI, 40, .inl zm)), (q6, .inl (cyI, 40, .inl zk))] H := hP
  have hD : va_D A [(q0, .inr (9, [.ref q1, .ref q2, .int svc, .ref q3, .int tl, .int (0 : Int32), .int mm, .int mr, .ref q4, .int ati, .int ors, .ref q5, .ref q6])), (q1, .inl (cyI, 246, .inl zs)), (q2, .inl (cyI, 984, .inl zv)), (q3, .inl (cyI, 80, .inl zt)), (q4, .inl (cyI, 5, .inl zp)), (q5, .inl (cyI, 40, .inl zm)), (q6, .inl (cyI, 40, .inl zk))] := hD
  refine lv_ldc2 (v := 31) hx hb hown w_1 dX9_digest_5 ?_
  refine lv_ldc2 (v := 612653) hx hb hown w_2 dX9_digest_8 ?_
  refine lv_aload_n hx hb dX9_digest_11 rfl (lv_at hl 0 rfl) ?_
  refine va_get (D := (dC, dI)) (ci := 9) (v := .int svc) (C := RX9) (T := TX9) (N := 13) hx hb hts i_X9 hown hK hP 0 rfl rfl 2 (by decide) w_3 (fun _ h9 => h9) rfl dX9_digest_12 ?_
  refine lv_i2l hx hb dX9_digest_15 rfl ?_
  refine lv_ladd hx hb dX9_digest_16 ?_
  refine lv_lmul hx hb dX9_digest_17 ?_
  refine lv_aload_n hx hb dX9_digest_18 rfl (lv_at hl 0 rfl) ?_
  refine va_get (D := (dC, dI)) (ci := 9) (v := .int tl) (C := RX9) (T := TX9) (N := 13) hx hb hts i_X9 hown hK hP 0 rfl rfl 4 (by decide) w_4 (fun _ h9 => h9) rfl dX9_digest_19 ?_
  refine lv_i2l hx hb dX9_digest_22 rfl ?_
  refine lv_ladd hx hb dX9_digest_23 ?_
  refine lv_topl (fun x_1 ex_1 => ?_)
  have hE := hE.trans (spLet_eq ex_1)
  refine lv_lstore_n (lv' := [(1, .long x_1), (0, .ref q0)]) hx hb dX9_digest_24 rfl hl (by decide) rfl (fun ls hl => ?_)
  refine lv_iconst (v := 0) hx hb dX9_digest_25 (by decide) ?_
  refine lv_istore_n (lv' := [(3, .int (0 : Int32)), (1, .long x_1), (0, .ref q0)]) hx hb dX9_digest_26 rfl hl (by decide) rfl (fun ls hl => ?_)
  have L27 : ∀ (n27 : Nat) (v1_27 : Int64) (k3_27 : Nat) (hi : k3_27 ≤ 12 ∧ 12 < k3_27 + n27) (ls : Array Slot) (hl : lv_has ls 4 [(0, .ref q0), (1, .long v1_27), (3, .int (nI k3_27))]) (hE : (m_digest svc tl mm mr zs zp) = spIter (fun _ _ => default) (m_digest_b27 mm mr zs zp) n27 v1_27 k3_27), W p l e (headSpec wqX9_digest ({ frames := 11, cells := 0, slots := 0, locals := 236 } : Room)).room s m ([.ref q0] : List Value).toArray below meth c H locs 0 0 (MQ below (va_Ql (fun (r : Int64) (u : Int64 × Int32 × Int32 × Int32 × (Nat → Int32)) => u = (m_digest svc tl mm mr zs zp) ∧ r = u.1) (fun (u : Int64 × Int32 × Int32 × Int32 × (Nat → Int32)) t => va_P (dC, dI) vwCl [(q0, .inr (9, [.ref q1, .ref q2, .int svc, .ref q3, .int tl, .int (u.2.1), .int (u.2.2.1), .int (u.2.2.2.1), .ref q4, .int ati, .int ors, .ref q5, .ref q6])), (q1, .inl (cyI, 246, .inl zs)), (q2, .inl (cyI, 984, .inl zv)), (q3, .inl (cyI, 80, .inl zt)), (q4, .inl (cyI, 5, .inl (u.2.2.2.2))), (q5, .inl (cyI, 40, .inl zm)), (q6, .inl (cyI, 40, .inl zk))] t.heap ∧ va_D A [(q0, .inr (9, [.ref q1, .ref q2, .int svc, .ref q3, .int tl, .int (u.2.1), .int (u.2.2.1), .int (u.2.2.2.1), .ref q4, .int ati, .int ors, .ref q5, .ref q6])), (q1, .inl (cyI, 246, .inl zs)), (q2, .inl (cyI, 984, .inl zv)), (q3, .inl (cyI, 80, .inl zt)), (q4, .inl (cyI, 5, .inl (u.2.2.2.2))), (q5, .inl (cyI, 40, .inl zm)), (q6, .inl (cyI, 40, .inl zk))]) A) ([.ref q0] : List Value).toArray s 0 0 A) (F0 m 27 ls []) := by
    intro n27
    induction n27 with
    | zero =>
      intro v1_27 k3_27 hi ls hl hE
      exact absurd hi (by omega)
    | succ n27 ih27 =>
      intro v1_27 k3_27 hi ls hl hE
      have hE : (m_digest svc tl mm mr zs zp) = m_digest_b27 mm mr zs zp (spIter (fun _ _ => default) (m_digest_b27 mm mr zs zp) n27) v1_27 k3_27 := hE
      refine lv_iload_n hx hb dX9_digest_27 rfl (lv_at hl 2 rfl) ?_
      refine lv_bipush (v := 12) hx hb dX9_digest_28 (by decide) ?_
      refine lv_icmp_ge (tgt := 52) hx hb dX9_digest_30 (by decide) (fun c_2 => ?_) (fun c_2 => ?_)
      ·
        have c_2 : 12 ≤ k3_27 := by
          have h1 : ((nI k3_27)) = nI k3_27 := rfl
          have h2 : ((12 : Int32)) = nI 12 := rfl
          have h3 : (nI 12 ≤ nI k3_27) := by first | exact c_2 | (rw [← h1, ← h2]; exact c_2)
          exact (nI_leI (by omega) (by omega)).mp h3
        have hE := hE.trans (if_pos c_2)
        refine lv_iconst (v := 0) hx hb dX9_digest_52 (by decide) ?_
        refine lv_istore_n (lv' := [(3, .int (0 : Int32)), (0, .ref q0), (1, .long v1_27)]) hx hb dX9_digest_53 rfl hl (by decide) rfl (fun ls hl => ?_)
        have L54 : ∀ (n54 : Nat) (v1_54 : Int64) (k3_54 : Nat) (w0_6_54 : Int32) (w0_7_54 : Int32) (hi : k3_54 ≤ 8 ∧ 8 < k3_54 + n54) (H : Heap) (locs : List Loc) (hP : va_P (dC, dI) vwCl [(q0, .inr (9, [.ref q1, .ref q2, .int svc, .ref q3, .int tl, .int (0 : Int32), .int w0_6_54, .int w0_7_54, .ref q4, .int ati, .int ors, .ref q5, .ref q6])), (q1, .inl (cyI, 246, .inl zs)), (q2, .inl (cyI, 984, .inl zv)), (q3, .inl (cyI, 80, .inl zt)), (q4, .inl (cyI, 5, .inl zp)), (q5, .inl (cyI, 40, .inl zm)), (q6, .inl (cyI, 40, .inl zk))] H) (hD : va_D A [(q0, .inr (9, [.ref q1, .ref q2, .int svc, .ref q3, .int tl, .int (0 : Int32), .int w0_6_54, .int w0_7_54, .ref q4, .int ati, .int ors, .ref q5, .ref q6])), (q1, .inl (cyI, 246, .inl zs)), (q2, .inl (cyI, 984, .inl zv)), (q3, .inl (cyI, 80, .inl zt)), (q4, .inl (cyI, 5, .inl zp)), (q5, .inl (cyI, 40, .inl zm)), (q6, .inl (cyI, 40, .inl zk))]) (hS : va_S A s.heap H locs) (ls : Array Slot) (hl : lv_has ls 4 [(0, .ref q0), (1, .long v1_54), (3, .int (nI k3_54))]) (hE : (m_digest svc tl mm mr zs zp) = spIter (fun _ _ _ _ => default) (m_digest_b54 zs zp) n54 v1_54 k3_54 w0_6_54 w0_7_54), W p l e (headSpec wqX9_digest ({ frames := 11, cells := 0, slots := 0, locals := 236 } : Room)).room s m ([.ref q0] : List Value).toArray below meth c H locs 0 0 (MQ below (va_Ql (fun (r : Int64) (u : Int64 × Int32 × Int32 × Int32 × (Nat → Int32)) => u = (m_digest svc tl mm mr zs zp) ∧ r = u.1) (fun (u : Int64 × Int32 × Int32 × Int32 × (Nat → Int32)) t => va_P (dC, dI) vwCl [(q0, .inr (9, [.ref q1, .ref q2, .int svc, .ref q3, .int tl, .int (u.2.1), .int (u.2.2.1), .int (u.2.2.2.1), .ref q4, .int ati, .int ors, .ref q5, .ref q6])), (q1, .inl (cyI, 246, .inl zs)), (q2, .inl (cyI, 984, .inl zv)), (q3, .inl (cyI, 80, .inl zt)), (q4, .inl (cyI, 5, .inl (u.2.2.2.2))), (q5, .inl (cyI, 40, .inl zm)), (q6, .inl (cyI, 40, .inl zk))] t.heap ∧ va_D A [(q0, .inr (9, [.ref q1, .ref q2, .int svc, .ref q3, .int tl, .int (u.2.1), .int (u.2.2.1), .int (u.2.2.2.1), .ref q4, .int ati, .int ors, .ref q5, .ref q6])), (q1, .inl (cyI, 246, .inl zs)), (q2, .inl (cyI, 984, .inl zv)), (q3, .inl (cyI, 80, .inl zt)), (q4, .inl (cyI, 5, .inl (u.2.2.2.2))), (q5, .inl (cyI, 40, .inl zm)), (q6, .inl (cyI, 40, .inl zk))]) A) ([.ref q0] : List Value).toArray s 0 0 A) (F0 m 54 ls []) := by
          intro n54
          induction n54 with
          | zero =>
            intro v1_54 k3_54 w0_6_54 w0_7_54 hi H locs hP hD hS ls hl hE
            exact absurd hi (by omega)
          | succ n54 ih54 =>
            intro v1_54 k3_54 w0_6_54 w0_7_54 hi H locs hP hD hS ls hl hE
            have hE : (m_digest svc tl mm mr zs zp) = m_digest_b54 zs zp (spIter (fun _ _ _ _ => default) (m_digest_b54 zs zp) n54) v1_54 k3_54 w0_6_54 w0_7_54 := hE
            refine lv_iload_n hx hb dX9_digest_54 rfl (lv_at hl 2 rfl) ?_
            refine lv_bipush (v := 8) hx hb dX9_digest_55 (by decide) ?_
            refine lv_icmp_ge (tgt := 79) hx hb dX9_digest_57 (by decide) (fun c_3 => ?_) (fun c_3 => ?_)
            ·
              have c_3 : 8 ≤ k3_54 := by
                have h1 : ((nI k3_54)) = nI k3_54 := rfl
                have h2 : ((8 : Int32)) = nI 8 := rfl
                have h3 : (nI 8 ≤ nI k3_54) := by first | exact c_3 | (rw [← h1, ← h2]; exact c_3)
                exact (nI_leI (by omega) (by omega)).mp h3
              have hE := hE.trans (if_pos c_3)
              refine lv_ldc2 (v := 31) hx hb hown w_1 dX9_digest_79 ?_
              refine lv_ldc2 (v := 31) hx hb hown w_1 dX9_digest_82 ?_
              refine lv_lload_n hx hb dX9_digest_85 rfl (lv_at hl 1 rfl) ?_
              refine lv_lmul hx hb dX9_digest_86 ?_
              refine lv_aload_n hx hb dX9_digest_87 rfl (lv_at hl 0 rfl) ?_
              refine mj_i (wr := []) (va_runV (As := []) (rest := [.long ((31 : Int64) * v1_54), .long (31 : Int64)]) ⟨hx, hb, hml, hown, hts⟩ (c_X9_permittedNow l dC dI cyI H.size q0 q1 q2 q3 q4 q5 q6 svc tl (0 : Int32) w0_6_54 w0_7_54 ati ors zs zv zt zp zm zk hG) (cwV 0 hts (gBV b_752 b_753 b_754 b_5 b_755) rfl rfl rfl (by decide +kernel) ⟨Nat.le_of_ble_eq_true rfl, Nat.le_of_ble_eq_true rfl⟩) (prm_v eM_ok he hS hP hD hK (va_free (wc := [(q0, .inr (9, [.ref q1, .ref q2, .int svc, .ref q3, .int tl, .int (0 : Int32), .int w0_6_54, .int w0_7_54, .ref q4, .int ati, .int ors, .ref q5, .ref q6])), (q1, .inl (cyI, 246, .inl zs)), (q2, .inl (cyI, 984, .inl zv)), (q3, .inl (cyI, 80, .inl zt)), (q4, .inl (cyI, 5, .inl zp)), (q5, .inl (cyI, 40, .inl zm)), (q6, .inl (cyI, 40, .inl zk))]) hD hS hA [0, 1, 2, 3, 4, 5, 6] rfl) 0 rfl rfl rfl) rfl rfl hl.1 rfl (lv_room (Nat.le_of_ble_eq_true rfl)) dX9_digest_88 ⟨Nat.le_of_ble_eq_true rfl, Nat.le_of_ble_eq_true rfl⟩) hP hD hS hA [0, 1, 2, 3, 4, 5, 6] [] rfl rfl (by decide) (by decide) (fun r_5 u_4 H locs hw hP hD hS => ?_)
              obtain ⟨hu_4, rfl⟩ := hw
              have hE := hE.trans (spLet_eq hu_4)
              have hP : va_P (dC, dI) vwCl [(q0, .inr (9, [.ref q1, .ref q2, .int svc, .ref q3, .int tl, .int (0 : Int32), .int (u_4.2.1), .int (u_4.2.2.1), .ref q4, .int ati, .int ors, .ref q5, .ref q6])), (q1, .inl (cyI, 246, .inl zs)), (q2, .inl (cyI, 984, .inl zv)), (q3, .inl (cyI, 80, .inl zt)), (q4, .inl (cyI, 5, .inl (u_4.2.2.2))), (q5, .inl (cyI, 40, .inl zm)), (q6, .inl (cyI, 40, .inl zk))] H := hP
              have hD : va_D A [(q0, .inr (9, [.ref q1, .ref q2, .int svc, .ref q3, .int tl, .int (0 : Int32), .int (u_4.2.1), .int (u_4.2.2.1), .ref q4, .int ati, .int ors, .ref q5, .ref q6])), (q1, .inl (cyI, 246, .inl zs)), (q2, .inl (cyI, 984, .inl zv)), (q3, .inl (cyI, 80, .inl zt)), (q4, .inl (cyI, 5, .inl (u_4.2.2.2))), (q5, .inl (cyI, 40, .inl zm)), (q6, .inl (cyI, 40, .inl zk))] := hD
              refine lv_i2l hx hb dX9_digest_91 rfl ?_
              refine lv_ladd hx hb dX9_digest_92 ?_
              refine lv_lmul hx hb dX9_digest_93 ?_
              refine lv_aload_n hx hb dX9_digest_94 rfl (lv_at hl 0 rfl) ?_
              refine va_get (D := (dC, dI)) (ci := 9) (v := .ref q1) (C := RX9) (T := TX9) (N := 13) hx hb hts i_X9 hown hK hP 0 rfl rfl 0 (by decide) w_5 (fun _ h9 => h9) rfl dX9_digest_95 ?_
              refine lv_iconst (v := 5) hx hb dX9_digest_98 (by decide) ?_
              refine ra_ld hx hb hK hP 1 0 rfl rfl (j := 5) (rfl : (5 : Int32) = nI 5) (by omega) (by omega) dX9_digest_99 ?_
              refine lv_i2l hx hb dX9_digest_100 rfl ?_
              refine lv_ladd hx hb dX9_digest_101 ?_
              refine lv_topl (fun x_6 ex_6 => ?_)
              have hE := hE.trans (spLet_eq ex_6)
              refine lv_lstore_n (lv' := [(1, .long x_6), (0, .ref q0), (3, .int (nI k3_54))]) hx hb dX9_digest_102 rfl hl (by decide) rfl (fun ls hl => ?_)
              refine lv_iconst (v := 0) hx hb dX9_digest_103 (by decide) ?_
              refine lv_istore_n (lv' := [(3, .int (0 : Int32)), (1, .long x_6), (0, .ref q0)]) hx hb dX9_digest_104 rfl hl (by decide) rfl (fun ls hl => ?_)
              have L105 : ∀ (n105 : Nat) (v1_105 : Int64) (k3_105 : Nat) (hi : k3_105 ≤ 4 ∧ 4 < k3_105 + n105) (ls : Array Slot) (hl : lv_has ls 4 [(0, .ref q0), (1, .long v1_105), (3, .int (nI k3_105))]) (hE : (m_digest svc tl mm mr zs zp) = spIter (fun _ _ => default) (m_digest_b105 zs u_4) n105 v1_105 k3_105), W p l e (headSpec wqX9_digest ({ frames := 11, cells := 0, slots := 0, locals := 236 } : Room)).room s m ([.ref q0] : List Value).toArray below meth c H locs 0 0 (MQ below (va_Ql (fun (r : Int64) (u : Int64 × Int32 × Int32 × Int32 × (Nat → Int32)) => u = (m_digest svc tl mm mr zs zp) ∧ r = u.1) (fun (u : Int64 × Int32 × Int32 × Int32 × (Nat → Int32)) t => va_P (dC, dI) vwCl [(q0, .inr (9, [.ref q1, .ref q2, .int svc, .ref q3, .int tl, .int (u.2.1), .int (u.2.2.1), .int (u.2.2.2.1), .ref q4, .int ati, .int ors, .ref q5, .ref q6])), (q1, .inl (cyI, 246, .inl zs)), (q2, .inl (cyI, 984, .inl zv)), (q3, .inl (cyI, 80, .inl zt)), (q4, .inl (cyI, 5, .inl (u.2.2.2.2))), (q5, .inl (cyI, 40, .inl zm)), (q6, .inl (cyI, 40, .inl zk))] t.heap ∧ va_D A [(q0, .inr (9, [.ref q1, .ref q2, .int svc, .ref q3, .int tl, .int (u.2.1), .int (u.2.2.1), .int (u.2.2.2.1), .ref q4, .int ati, .int ors, .ref q5, .ref q6])), (q1, .inl (cyI, 246, .inl zs)), (q2, .inl (cyI, 984, .inl zv)), (q3, .inl (cyI, 80, .inl zt)), (q4, .inl (cyI, 5, .inl (u.2.2.2.2))), (q5, .inl (cyI, 40, .inl zm)), (q6, .inl (cyI, 40, .inl zk))]) A) ([.ref q0] : List Value).toArray s 0 0 A) (F0 m 105 ls []) := by
                intro n105
                induction n105 with
                | zero =>
                  intro v1_105 k3_105 hi ls hl hE
                  exact absurd hi (by omega)
                | succ n105 ih105 =>
                  intro v1_105 k3_105 hi ls hl hE
                  have hE : (m_digest svc tl mm mr zs zp) = m_digest_b105 zs u_4 (spIter (fun _ _ => default) (m_digest_b105 zs u_4) n105) v1_105 k3_105 := hE
                  refine lv_iload_n hx hb dX9_digest_105 rfl (lv_at hl 2 rfl) ?_
                  refine lv_iconst (v := 4) hx hb dX9_digest_106 (by decide) ?_
                  refine lv_icmp_ge (tgt := 133) hx hb dX9_digest_107 (by decide) (fun c_7 => ?_) (fun c_7 => ?_)
                  ·
                    have c_7 : 4 ≤ k3_105 := by
                      have h1 : ((nI k3_105)) = nI k3_105 := rfl
                      have h2 : ((4 : Int32)) = nI 4 := rfl
                      have h3 : (nI 4 ≤ nI k3_105) := by first | exact c_7 | (rw [← h1, ← h2]; exact c_7)
                      exact (nI_leI (by omega) (by omega)).mp h3
                    have hE := hE.trans (if_pos c_7)
                    refine lv_ldc2 (v := 31) hx hb hown w_1 dX9_digest_133 ?_
                    refine lv_lload_n hx hb dX9_digest_136 rfl (lv_at hl 1 rfl) ?_
                    refine lv_lmul hx hb dX9_digest_137 ?_
                    refine lv_aload_n hx hb dX9_digest_138 rfl (lv_at hl 0 rfl) ?_
                    refine va_get (D := (dC, dI)) (ci := 9) (v := .ref q1) (C := RX9) (T := TX9) (N := 13) hx hb hts i_X9 hown hK hP 0 rfl rfl 0 (by decide) w_5 (fun _ h9 => h9) rfl dX9_digest_139 ?_
                    refine lv_bipush (v := 10) hx hb dX9_digest_142 (by decide) ?_
                    refine ra_ld hx hb hK hP 1 0 rfl rfl (j := 10) (rfl : (10 : Int32) = nI 10) (by omega) (by omega) dX9_digest_144 ?_
                    refine lv_i2l hx hb dX9_digest_145 rfl ?_
                    refine lv_ladd hx hb dX9_digest_146 ?_
                    refine lv_topl (fun x_8 ex_8 => ?_)
                    have hE := hE.trans (spLet_eq ex_8)
                    refine lv_lstore_n (lv' := [(1, .long x_8), (0, .ref q0), (3, .int (nI k3_105))]) hx hb dX9_digest_147 rfl hl (by decide) rfl (fun ls hl => ?_)
                    refine lv_iconst (v := 0) hx hb dX9_digest_148 (by decide) ?_
                    refine lv_istore_n (lv' := [(3, .int (0 : Int32)), (1, .long x_8), (0, .ref q0)]) hx hb dX9_digest_149 rfl hl (by decide) rfl (fun ls hl => ?_)
                    have L150 : ∀ (n150 : Nat) (v1_150 : Int64) (k3_150 : Nat) (hi : k3_150 ≤ 4 ∧ 4 < k3_150 + n150) (ls : Array Slot) (hl : lv_has ls 4 [(0, .ref q0), (1, .long v1_150), (3, .int (nI k3_150))]) (hE : (m_digest svc tl mm mr zs zp) = spIter (fun _ _ => default) (m_digest_b150 zs u_4) n150 v1_150 k3_150), W p l e (headSpec wqX9_digest ({ frames := 11, cells := 0, slots := 0, locals := 236 } : Room)).room s m ([.ref q0] : List Value).toArray below meth c H locs 0 0 (MQ below (va_Ql (fun (r : Int64) (u : Int64 × Int32 × Int32 × Int32 × (Nat → Int32)) => u = (m_digest svc tl mm mr zs zp) ∧ r = u.1) (fun (u : Int64 × Int32 × Int32 × Int32 × (Nat → Int32)) t => va_P (dC, dI) vwCl [(q0, .inr (9, [.ref q1, .ref q2, .int svc, .ref q3, .int tl, .int (u.2.1), .int (u.2.2.1), .int (u.2.2.2.1), .ref q4, .int ati, .int ors, .ref q5, .ref q6])), (q1, .inl (cyI, 246, .inl zs)), (q2, .inl (cyI, 984, .inl zv)), (q3, .inl (cyI, 80, .inl zt)), (q4, .inl (cyI, 5, .inl (u.2.2.2.2))), (q5, .inl (cyI, 40, .inl zm)), (q6, .inl (cyI, 40, .inl zk))] t.heap ∧ va_D A [(q0, .inr (9, [.ref q1, .ref q2, .int svc, .ref q3, .int tl, .int (u.2.1), .int (u.2.2.1), .int (u.2.2.2.1), .ref q4, .int ati, .int ors, .ref q5, .ref q6])), (q1, .inl (cyI, 246, .inl zs)), (q2, .inl (cyI, 984, .inl zv)), (q3, .inl (cyI, 80, .inl zt)), (q4, .inl (cyI, 5, .inl (u.2.2.2.2))), (q5, .inl (cyI, 40, .inl zm)), (q6, .inl (cyI, 40, .inl zk))]) A) ([.ref q0] : List Value).toArray s 0 0 A) (F0 m 150 ls []) := by
                      intro n150
                      induction n150 with
                      | zero =>
                        intro v1_150 k3_150 hi ls hl hE
                        exact absurd hi (by omega)
                      | succ n150 ih150 =>
                        intro v1_150 k3_150 hi ls hl hE
                        have hE : (m_digest svc tl mm mr zs zp) = m_digest_b150 zs u_4 (spIter (fun _ _ => default) (m_digest_b150 zs u_4) n150) v1_150 k3_150 := hE
                        refine lv_iload_n hx hb dX9_digest_150 rfl (lv_at hl 2 rfl) ?_
                        refine lv_iconst (v := 4) hx hb dX9_digest_151 (by decide) ?_
                        refine lv_icmp_ge (tgt := 174) hx hb dX9_digest_152 (by decide) (fun c_9 => ?_) (fun c_9 => ?_)
                        ·
                          have c_9 : 4 ≤ k3_150 := by
                            have h1 : ((nI k3_150)) = nI k3_150 := rfl
                            have h2 : ((4 : Int32)) = nI 4 := rfl
                            have h3 : (nI 4 ≤ nI k3_150) := by first | exact c_9 | (rw [← h1, ← h2]; exact c_9)
                            exact (nI_leI (by omega) (by omega)).mp h3
                          have hE := hE.trans (if_pos c_9)
                          refine lv_iconst (v := 0) hx hb dX9_digest_174 (by decide) ?_
                          refine lv_istore_n (lv' := [(3, .int (0 : Int32)), (0, .ref q0), (1, .long v1_150)]) hx hb dX9_digest_175 rfl hl (by decide) rfl (fun ls hl => ?_)
                          have L176 : ∀ (n176 : Nat) (v1_176 : Int64) (k3_176 : Nat) (hi : k3_176 ≤ 25 ∧ 25 < k3_176 + n176) (ls : Array Slot) (hl : lv_has ls 4 [(0, .ref q0), (1, .long v1_176), (3, .int (nI k3_176))]) (hE : (m_digest svc tl mm mr zs zp) = spIter (fun _ _ => default) (m_digest_b176 zs u_4) n176 v1_176 k3_176), W p l e (headSpec wqX9_digest ({ frames := 11, cells := 0, slots := 0, locals := 236 } : Room)).room s m ([.ref q0] : List Value).toArray below meth c H locs 0 0 (MQ below (va_Ql (fun (r : Int64) (u : Int64 × Int32 × Int32 × Int32 × (Nat → Int32)) => u = (m_digest svc tl mm mr zs zp) ∧ r = u.1) (fun (u : Int64 × Int32 × Int32 × Int32 × (Nat → Int32)) t => va_P (dC, dI) vwCl [(q0, .inr (9, [.ref q1, .ref q2, .int svc, .ref q3, .int tl, .int (u.2.1), .int (u.2.2.1), .int (u.2.2.2.1), .ref q4, .int ati, .int ors, .ref q5, .ref q6])), (q1, .inl (cyI, 246, .inl zs)), (q2, .inl (cyI, 984, .inl zv)), (q3, .inl (cyI, 80, .inl zt)), (q4, .inl (cyI, 5, .inl (u.2.2.2.2))), (q5, .inl (cyI, 40, .inl zm)), (q6, .inl (cyI, 40, .inl zk))] t.heap ∧ va_D A [(q0, .inr (9, [.ref q1, .ref q2, .int svc, .ref q3, .int tl, .int (u.2.1), .int (u.2.2.1), .int (u.2.2.2.1), .ref q4, .int ati, .int ors, .ref q5, .ref q6])), (q1, .inl (cyI, 246, .inl zs)), (q2, .inl (cyI, 984, .inl zv)), (q3, .inl (cyI, 80, .inl zt)), (q4, .inl (cyI, 5, .inl (u.2.2.2.2))), (q5, .inl (cyI, 40, .inl zm)), (q6, .inl (cyI, 40, .inl zk))]) A) ([.ref q0] : List Value).toArray s 0 0 A) (F0 m 176 ls []) := by
                            intro n176
                            induction n176 with
                            | zero =>
                              intro v1_176 k3_176 hi ls hl hE
                              exact absurd hi (by omega)
                            | succ n176 ih176 =>
                              intro v1_176 k3_176 hi ls hl hE
                              have hE : (m_digest svc tl mm mr zs zp) = m_digest_b176 zs u_4 (spIter (fun _ _ => default) (m_digest_b176 zs u_4) n176) v1_176 k3_176 := hE
                              refine lv_iload_n hx hb dX9_digest_176 rfl (lv_at hl 2 rfl) ?_
                              refine lv_iconst (v := 4) hx hb dX9_digest_177 (by decide) ?_
                              refine lv_aload_n hx hb dX9_digest_178 rfl (lv_at hl 0 rfl) ?_
                              refine va_get (D := (dC, dI)) (ci := 9) (v := .ref q1) (C := RX9) (T := TX9) (N := 13) hx hb hts i_X9 hown hK hP 0 rfl rfl 0 (by decide) w_5 (fun _ h9 => h9) rfl dX9_digest_179 ?_
                              refine lv_bipush (v := 18) hx hb dX9_digest_182 (by decide) ?_
                              refine ra_ld hx hb hK hP 1 0 rfl rfl (j := 18) (rfl : (18 : Int32) = nI 18) (by omega) (by omega) dX9_digest_184 ?_
                              refine lv_imul hx hb dX9_digest_185 ?_
                              refine lv_icmp_gt (tgt := 212) hx hb dX9_digest_186 (by decide) (fun c_10 => ?_) (fun c_10 => ?_)
                              ·
                                have c_10 : (4 * (zs 18).toNatClampNeg) < k3_176 := by
                                  have h1 : ((nI k3_176)) = nI k3_176 := rfl
                                  have h2 : (((4 : Int32) * (zs 18))) = nI (4 * (zs 18).toNatClampNeg) := (nmul (rfl : (4 : Int32) = nI 4) hz)
                                  have h3 : (nI (4 * (zs 18).toNatClampNeg) < nI k3_176) := by first | exact c_10 | (rw [← h1, ← h2]; exact c_10)
                                  exact (nI_ltI (by omega) (by omega)).mp h3
                                have hE := hE.trans (if_pos c_10)
                                refine lv_iconst (v := 0) hx hb dX9_digest_212 (by decide) ?_
                                refine lv_istore_n (lv' := [(3, .int (0 : Int32)), (0, .ref q0), (1, .long v1_176)]) hx hb dX9_digest_213 rfl hl (by decide) rfl (fun ls hl => ?_)
                                have L214 : ∀ (n214 : Nat) (v1_214 : Int64) (k3_214 : Nat) (hi : k3_214 ≤ 91 ∧ 91 < k3_214 + n214) (ls : Array Slot) (hl : lv_has ls 4 [(0, .ref q0), (1, .long v1_214), (3, .int (nI k3_214))]) (hE : (m_digest svc tl mm mr zs zp) = spIter (fun _ _ => default) (m_digest_b214 zs u_4) n214 v1_214 k3_214), W p l e (headSpec wqX9_digest ({ frames := 11, cells := 0, slots := 0, locals := 236 } : Room)).room s m ([.ref q0] : List Value).toArray below meth c H locs 0 0 (MQ below (va_Ql (fun (r : Int64) (u : Int64 × Int32 × Int32 × Int32 × (Nat → Int32)) => u = (m_digest svc tl mm mr zs zp) ∧ r = u.1) (fun (u : Int64 × Int32 × Int32 × Int32 × (Nat → Int32)) t => va_P (dC, dI) vwCl [(q0, .inr (9, [.ref q1, .ref q2, .int svc, .ref q3, .int tl, .int (u.2.1), .int (u.2.2.1), .int (u.2.2.2.1), .ref q4, .int ati, .int ors, .ref q5, .ref q6])), (q1, .inl (cyI, 246, .inl zs)), (q2, .inl (cyI, 984, .inl zv)), (q3, .inl (cyI, 80, .inl zt)), (q4, .inl (cyI, 5, .inl (u.2.2.2.2))), (q5, .inl (cyI, 40, .inl zm)), (q6, .inl (cyI, 40, .inl zk))] t.heap ∧ va_D A [(q0, .inr (9, [.ref q1, .ref q2, .int svc, .ref q3, .int tl, .int (u.2.1), .int (u.2.2.1), .int (u.2.2.2.1), .ref q4, .int ati, .int ors, .ref q5, .ref q6])), (q1, .inl (cyI, 246, .inl zs)), (q2, .inl (cyI, 984, .inl zv)), (q3, .inl (cyI, 80, .inl zt)), (q4, .inl (cyI, 5, .inl (u.2.2.2.2))), (q5, .inl (cyI, 40, .inl zm)), (q6, .inl (cyI, 40, .inl zk))]) A) ([.ref q0] : List Value).toArray s 0 0 A) (F0 m 214 ls []) := by
                                  intro n214
                                  induction n214 with
                                  | zero =>
                                    intro v1_214 k3_214 hi ls hl hE
                                    exact absurd hi (by omega)
                                  | succ n214 ih214 =>
                                    intro v1_214 k3_214 hi ls hl hE
                                    have hE : (m_digest svc tl mm mr zs zp) = m_digest_b214 zs u_4 (spIter (fun _ _ => default) (m_digest_b214 zs u_4) n214) v1_214 k3_214 := hE
                                    refine lv_iload_n hx hb dX9_digest_214 rfl (lv_at hl 2 rfl) ?_
                                    refine lv_iconst (v := 3) hx hb dX9_digest_215 (by decide) ?_
                                    refine lv_aload_n hx hb dX9_digest_216 rfl (lv_at hl 0 rfl) ?_
                                    refine va_get (D := (dC, dI)) (ci := 9) (v := .ref q1) (C := RX9) (T := TX9) (N := 13) hx hb hts i_X9 hown hK hP 0 rfl rfl 0 (by decide) w_5 (fun _ h9 => h9) rfl dX9_digest_217 ?_
                                    refine lv_sipush (v := 143) hx hb dX9_digest_220 (by decide) ?_
                                    refine ra_ld hx hb hK hP 1 0 rfl rfl (j := 143) (rfl : (143 : Int32) = nI 143) (by omega) (by omega) dX9_digest_223 ?_
                                    refine lv_imul hx hb dX9_digest_224 ?_
                                    refine lv_icmp_gt (tgt := 252) hx hb dX9_digest_225 (by decide) (fun c_11 => ?_) (fun c_11 => ?_)
                                    ·
                                      have c_11 : (3 * (zs 143).toNatClampNeg) < k3_214 := by
                                        have h1 : ((nI k3_214)) = nI k3_214 := rfl
                                        have h2 : (((3 : Int32) * (zs 143))) = nI (3 * (zs 143).toNatClampNeg) := (nmul (rfl : (3 : Int32) = nI 3) hw)
                                        have h3 : (nI (3 * (zs 143).toNatClampNeg) < nI k3_214) := by first | exact c_11 | (rw [← h1, ← h2]; exact c_11)
                                        exact (nI_ltI (by omega) (by omega)).mp h3
                                      have hE := hE.trans (if_pos c_11)
                                      refine lv_iconst (v := 0) hx hb dX9_digest_252 (by decide) ?_
                                      refine lv_istore_n (lv' := [(3, .int (0 : Int32)), (0, .ref q0), (1, .long v1_214)]) hx hb dX9_digest_253 rfl hl (by decide) rfl (fun ls hl => ?_)
                                      have L254 : ∀ (n254 : Nat) (v1_254 : Int64) (k3_254 : Nat) (hi : k3_254 ≤ 12 ∧ 12 < k3_254 + n254) (ls : Array Slot) (hl : lv_has ls 4 [(0, .ref q0), (1, .long v1_254), (3, .int (nI k3_254))]) (hE : (m_digest svc tl mm mr zs zp) = spIter (fun _ _ => default) (m_digest_b254 zs u_4) n254 v1_254 k3_254), W p l e (headSpec wqX9_digest ({ frames := 11, cells := 0, slots := 0, locals := 236 } : Room)).room s m ([.ref q0] : List Value).toArray below meth c H locs 0 0 (MQ below (va_Ql (fun (r : Int64) (u : Int64 × Int32 × Int32 × Int32 × (Nat → Int32)) => u = (m_digest svc tl mm mr zs zp) ∧ r = u.1) (fun (u : Int64 × Int32 × Int32 × Int32 × (Nat → Int32)) t => va_P (dC, dI) vwCl [(q0, .inr (9, [.ref q1, .ref q2, .int svc, .ref q3, .int tl, .int (u.2.1), .int (u.2.2.1), .int (u.2.2.2.1), .ref q4, .int ati, .int ors, .ref q5, .ref q6])), (q1, .inl (cyI, 246, .inl zs)), (q2, .inl (cyI, 984, .inl zv)), (q3, .inl (cyI, 80, .inl zt)), (q4, .inl (cyI, 5, .inl (u.2.2.2.2))), (q5, .inl (cyI, 40, .inl zm)), (q6, .inl (cyI, 40, .inl zk))] t.heap ∧ va_D A [(q0, .inr (9, [.ref q1, .ref q2, .int svc, .ref q3, .int tl, .int (u.2.1), .int (u.2.2.1), .int (u.2.2.2.1), .ref q4, .int ati, .int ors, .ref q5, .ref q6])), (q1, .inl (cyI, 246, .inl zs)), (q2, .inl (cyI, 984, .inl zv)), (q3, .inl (cyI, 80, .inl zt)), (q4, .inl (cyI, 5, .inl (u.2.2.2.2))), (q5, .inl (cyI, 40, .inl zm)), (q6, .inl (cyI, 40, .inl zk))]) A) ([.ref q0] : List Value).toArray s 0 0 A) (F0 m 254 ls []) := by
                                        intro n254
                                        induction n254 with
                                        | zero =>
                                          intro v1_254 k3_254 hi ls hl hE
                                          exact absurd hi (by omega)
                                        | succ n254 ih254 =>
                                          intro v1_254 k3_254 hi ls hl hE
                                          have hE : (m_digest svc tl mm mr zs zp) = m_digest_b254 zs u_4 (spIter (fun _ _ => default) (m_digest_b254 zs u_4) n254) v1_254 k3_254 := hE
                                          refine lv_iload_n hx hb dX9_digest_254 rfl (lv_at hl 2 rfl) ?_
                                          refine lv_bipush (v := 12) hx hb dX9_digest_255 (by decide) ?_
                                          refine lv_icmp_ge (tgt := 284) hx hb dX9_digest_257 (by decide) (fun c_12 => ?_) (fun c_12 => ?_)
                                          ·
                                            have c_12 : 12 ≤ k3_254 := by
                                              have h1 : ((nI k3_254)) = nI k3_254 := rfl
                                              have h2 : ((12 : Int32)) = nI 12 := rfl
                                              have h3 : (nI 12 ≤ nI k3_254) := by first | exact c_12 | (rw [← h1, ← h2]; exact c_12)
                                              exact (nI_leI (by omega) (by omega)).mp h3
                                            have hE := hE.trans (if_pos c_12)
                                            refine lv_lload_n hx hb dX9_digest_284 rfl (lv_at hl 1 rfl) ?_
                                            exact W.lret (v := v1_254) hx hb hr (fun t h9 hW => ⟨⟨v1_254, ((v1_254, (0 : Int32), (u_4.2.1), (u_4.2.2.1), (u_4.2.2.2)) : Int64 × Int32 × Int32 × Int32 × (Nat → Int32)), rfl, ⟨hE.symm, rfl⟩, by rw [h9]; exact hP, hD⟩, hS.F h9⟩) hS.2.2 dX9_digest_285
                                          ·
                                            have c_12 : ¬ 12 ≤ k3_254 := by
                                              have h1 : ((nI k3_254)) = nI k3_254 := rfl
                                              have h2 : ((12 : Int32)) = nI 12 := rfl
                                              have h3 : ¬ (nI 12 ≤ nI k3_254) := by first | exact c_12 | (rw [← h1, ← h2]; exact c_12)
                                              exact fun h => h3 ((nI_leI (by omega) (by omega)).mpr h)
                                            have hE := hE.trans (if_neg c_12)
                                            refine lv_ldc2 (v := 31) hx hb hown w_1 dX9_digest_260 ?_
                                            refine lv_lload_n hx hb dX9_digest_263 rfl (lv_at hl 1 rfl) ?_
                                            refine lv_lmul hx hb dX9_digest_264 ?_
                                            refine lv_aload_n hx hb dX9_digest_265 rfl (lv_at hl 0 rfl) ?_
                                            refine va_get (D := (dC, dI)) (ci := 9) (v := .ref q1) (C := RX9) (T := TX9) (N := 13) hx hb hts i_X9 hown hK hP 0 rfl rfl 0 (by decide) w_5 (fun _ h9 => h9) rfl dX9_digest_266 ?_
                                            refine lv_sipush (v := 234) hx hb dX9_digest_269 (by decide) ?_
                                            refine lv_iload_n hx hb dX9_digest_272 rfl (lv_at hl 2 rfl) ?_
                                            refine lv_iadd hx hb dX9_digest_273 ?_
                                            refine ra_ld hx hb hK hP 1 0 rfl rfl (j := (234 + k3_254)) (nadd (rfl : (234 : Int32) = nI 234) (rfl : (nI k3_254) = nI k3_254)) (by omega) (by omega) dX9_digest_274 ?_
                                            refine lv_i2l hx hb dX9_digest_275 rfl ?_
                                            refine lv_ladd hx hb dX9_digest_276 ?_
                                            refine lv_topl (fun x_13 ex_13 => ?_)
                                            have hE := hE.trans (spLet_eq ex_13)
                                            refine lv_lstore_n (lv' := [(1, .long x_13), (0, .ref q0), (3, .int (nI k3_254))]) hx hb dX9_digest_277 rfl hl (by decide) rfl (fun ls hl => ?_)
                                            refine lv_iinc (v := (nI (k3_254 + 1))) (lv' := [(3, .int (nI (k3_254 + 1))), (1, .long x_13), (0, .ref q0)]) hx hb dX9_digest_278 hl (k := 2) rfl (show _ from (congrArg (fun z => z + Int32.ofInt 1) (rfl)).trans (ninc _ 1)) (by decide) rfl (fun ls hl => ?_)
                                            refine lv_goto (tgt := 254) hx hb dX9_digest_281 (by decide) ?_
                                            exact ih254 x_13 (k3_254 + 1) (by omega) ls (lv_sub hl [2, 1, 0] rfl) hE
                                      exact L254 13 v1_214 0 (by omega) ls (lv_sub hl [1, 2, 0] rfl) hE
                                    ·
                                      have c_11 : ¬ (3 * (zs 143).toNatClampNeg) < k3_214 := by
                                        have h1 : ((nI k3_214)) = nI k3_214 := rfl
                                        have h2 : (((3 : Int32) * (zs 143))) = nI (3 * (zs 143).toNatClampNeg) := (nmul (rfl : (3 : Int32) = nI 3) hw)
                                        have h3 : ¬ (nI (3 * (zs 143).toNatClampNeg) < nI k3_214) := by first | exact c_11 | (rw [← h1, ← h2]; exact c_11)
                                        exact fun h => h3 ((nI_ltI (by omega) (by omega)).mpr h)
                                      have hE := hE.trans (if_neg c_11)
                                      refine lv_ldc2 (v := 31) hx hb hown w_1 dX9_digest_228 ?_
                                      refine lv_lload_n hx hb dX9_digest_231 rfl (lv_at hl 1 rfl) ?_
                                      refine lv_lmul hx hb dX9_digest_232 ?_
                                      refine lv_aload_n hx hb dX9_digest_233 rfl (lv_at hl 0 rfl) ?_
                                      refine va_get (D := (dC, dI)) (ci := 9) (v := .ref q1) (C := RX9) (T := TX9) (N := 13) hx hb hts i_X9 hown hK hP 0 rfl rfl 0 (by decide) w_5 (fun _ h9 => h9) rfl dX9_digest_234 ?_
                                      refine lv_sipush (v := 143) hx hb dX9_digest_237 (by decide) ?_
                                      refine lv_iload_n hx hb dX9_digest_240 rfl (lv_at hl 2 rfl) ?_
                                      refine lv_iadd hx hb dX9_digest_241 ?_
                                      refine ra_ld hx hb hK hP 1 0 rfl rfl (j := (143 + k3_214)) (nadd (rfl : (143 : Int32) = nI 143) (rfl : (nI k3_214) = nI k3_214)) (by omega) (by omega) dX9_digest_242 ?_
                                      refine lv_i2l hx hb dX9_digest_243 rfl ?_
                                      refine lv_ladd hx hb dX9_digest_244 ?_
                                      refine lv_topl (fun x_14 ex_14 => ?_)
                                      have hE := hE.trans (spLet_eq ex_14)
                                      refine lv_lstore_n (lv' := [(1, .long x_14), (0, .ref q0), (3, .int (nI k3_214))]) hx hb dX9_digest_245 rfl hl (by decide) rfl (fun ls hl => ?_)
                                      refine lv_iinc (v := (nI (k3_214 + 1))) (lv' := [(3, .int (nI (k3_214 + 1))), (1, .long x_14), (0, .ref q0)]) hx hb dX9_digest_246 hl (k := 2) rfl (show _ from (congrArg (fun z => z + Int32.ofInt 1) (rfl)).trans (ninc _ 1)) (by decide) rfl (fun ls hl => ?_)
                                      refine lv_goto (tgt := 214) hx hb dX9_digest_249 (by decide) ?_
                                      exact ih214 x_14 (k3_214 + 1) (by omega) ls (lv_sub hl [2, 1, 0] rfl) hE
                                exact L214 92 v1_176 0 (by omega) ls (lv_sub hl [1, 2, 0] rfl) hE
                              ·
                                have c_10 : ¬ (4 * (zs 18).toNatClampNeg) < k3_176 := by
                                  have h1 : ((nI k3_176)) = nI k3_176 := rfl
                                  have h2 : (((4 : Int32) * (zs 18))) = nI (4 * (zs 18).toNatClampNeg) := (nmul (rfl : (4 : Int32) = nI 4) hz)
                                  have h3 : ¬ (nI (4 * (zs 18).toNatClampNeg) < nI k3_176) := by first | exact c_10 | (rw [← h1, ← h2]; exact c_10)
                                  exact fun h => h3 ((nI_ltI (by omega) (by omega)).mpr h)
                                have hE := hE.trans (if_neg c_10)
                                refine lv_ldc2 (v := 31) hx hb hown w_1 dX9_digest_189 ?_
                                refine lv_lload_n hx hb dX9_digest_192 rfl (lv_at hl 1 rfl) ?_
                                refine lv_lmul hx hb dX9_digest_193 ?_
                                refine lv_aload_n hx hb dX9_digest_194 rfl (lv_at hl 0 rfl) ?_
                                refine va_get (D := (dC, dI)) (ci := 9) (v := .ref q1) (C := RX9) (T := TX9) (N := 13) hx hb hts i_X9 hown hK hP 0 rfl rfl 0 (by decide) w_5 (fun _ h9 => h9) rfl dX9_digest_195 ?_
                                refine lv_bipush (v := 18) hx hb dX9_digest_198 (by decide) ?_
                                refine lv_iload_n hx hb dX9_digest_200 rfl (lv_at hl 2 rfl) ?_
                                refine lv_iadd hx hb dX9_digest_201 ?_
                                refine ra_ld hx hb hK hP 1 0 rfl rfl (j := (18 + k3_176)) (nadd (rfl : (18 : Int32) = nI 18) (rfl : (nI k3_176) = nI k3_176)) (by omega) (by omega) dX9_digest_202 ?_
                                refine lv_i2l hx hb dX9_digest_203 rfl ?_
                                refine lv_ladd hx hb dX9_digest_204 ?_
                                refine lv_topl (fun x_15 ex_15 => ?_)
                                have hE := hE.trans (spLet_eq ex_15)
                                refine lv_lstore_n (lv' := [(1, .long x_15), (0, .ref q0), (3, .int (nI k3_176))]) hx hb dX9_digest_205 rfl hl (by decide) rfl (fun ls hl => ?_)
                                refine lv_iinc (v := (nI (k3_176 + 1))) (lv' := [(3, .int (nI (k3_176 + 1))), (1, .long x_15), (0, .ref q0)]) hx hb dX9_digest_206 hl (k := 2) rfl (show _ from (congrArg (fun z => z + Int32.ofInt 1) (rfl)).trans (ninc _ 1)) (by decide) rfl (fun ls hl => ?_)
                                refine lv_goto (tgt := 176) hx hb dX9_digest_209 (by decide) ?_
                                exact ih176 x_15 (k3_176 + 1) (by omega) ls (lv_sub hl [2, 1, 0] rfl) hE
                          exact L176 26 v1_150 0 (by omega) ls (lv_sub hl [1, 2, 0] rfl) hE
                        ·
                          have c_9 : ¬ 4 ≤ k3_150 := by
                            have h1 : ((nI k3_150)) = nI k3_150 := rfl
                            have h2 : ((4 : Int32)) = nI 4 := rfl
                            have h3 : ¬ (nI 4 ≤ nI k3_150) := by first | exact c_9 | (rw [← h1, ← h2]; exact c_9)
                            exact fun h => h3 ((nI_leI (by omega) (by omega)).mpr h)
                          have hE := hE.trans (if_neg c_9)
                          refine lv_ldc2 (v := 31) hx hb hown w_1 dX9_digest_155 ?_
                          refine lv_lload_n hx hb dX9_digest_158 rfl (lv_at hl 1 rfl) ?_
                          refine lv_lmul hx hb dX9_digest_159 ?_
                          refine lv_aload_n hx hb dX9_digest_160 rfl (lv_at hl 0 rfl) ?_
                          refine lv_iload_n hx hb dX9_digest_161 rfl (lv_at hl 2 rfl) ?_
                          refine vp_callSi (W.runV (As := [.int (nI k3_150)]) (rest := [.long ((31 : Int64) * v1_150)]) ⟨hx, hb, hml, hown, hts⟩ (c_X9_sumOf l dC dI cyI q0 q1 q2 q3 q4 q5 q6 svc tl (0 : Int32) (u_4.2.1) (u_4.2.2.1) ati ors zs zv zt (u_4.2.2.2) zm zk (k3_150) (by omega)) (cwV 1 hts (gBV b_270 b_271 b_272 b_5 b_273) rfl rfl rfl (by decide +kernel) ⟨Nat.le_of_ble_eq_true rfl, Nat.le_of_ble_eq_true rfl⟩) (pre_v eM_ok he hS hP hK 0 rfl rfl rfl) rfl rfl hl.1 rfl (lv_room (Nat.le_of_ble_eq_true rfl)) dX9_digest_162 ⟨Nat.zero_le _, Nat.zero_le _⟩) (fun r_16 hr_16 => ?_)
                          have hE := hE.trans (spLet_eq hr_16)
                          refine lv_i2l hx hb dX9_digest_165 rfl ?_
                          refine lv_ladd hx hb dX9_digest_166 ?_
                          refine lv_topl (fun x_17 ex_17 => ?_)
                          have hE := hE.trans (spLet_eq ex_17)
                          refine lv_lstore_n (lv' := [(1, .long x_17), (0, .ref q0), (3, .int (nI k3_150))]) hx hb dX9_digest_167 rfl hl (by decide) rfl (fun ls hl => ?_)
                          refine lv_iinc (v := (nI (k3_150 + 1))) (lv' := [(3, .int (nI (k3_150 + 1))), (1, .long x_17), (0, .ref q0)]) hx hb dX9_digest_168 hl (k := 2) rfl (show _ from (congrArg (fun z => z + Int32.ofInt 1) (rfl)).trans (ninc _ 1)) (by decide) rfl (fun ls hl => ?_)
                          refine lv_goto (tgt := 150) hx hb dX9_digest_171 (by decide) ?_
                          exact ih150 x_17 (k3_150 + 1) (by omega) ls (lv_sub hl [2, 1, 0] rfl) hE
                    exact L150 5 x_8 0 (by omega) ls (lv_sub hl [2, 1, 0] rfl) hE
                  ·
                    have c_7 : ¬ 4 ≤ k3_105 := by
                      have h1 : ((nI k3_105)) = nI k3_105 := rfl
                      have h2 : ((4 : Int32)) = nI 4 := rfl
                      have h3 : ¬ (nI 4 ≤ nI k3_105) := by first | exact c_7 | (rw [← h1, ← h2]; exact c_7)
                      exact fun h => h3 ((nI_leI (by omega) (by omega)).mpr h)
                    have hE := hE.trans (if_neg c_7)
                    refine lv_ldc2 (v := 31) hx hb hown w_1 dX9_digest_110 ?_
                    refine lv_lload_n hx hb dX9_digest_113 rfl (lv_at hl 1 rfl) ?_
                    refine lv_lmul hx hb dX9_digest_114 ?_
                    refine lv_aload_n hx hb dX9_digest_115 rfl (lv_at hl 0 rfl) ?_
                    refine va_get (D := (dC, dI)) (ci := 9) (v := .ref q1) (C := RX9) (T := TX9) (N := 13) hx hb hts i_X9 hown hK hP 0 rfl rfl 0 (by decide) w_5 (fun _ h9 => h9) rfl dX9_digest_116 ?_
                    refine lv_bipush (v := 43) hx hb dX9_digest_119 (by decide) ?_
                    refine lv_iload_n hx hb dX9_digest_121 rfl (lv_at hl 2 rfl) ?_
                    refine lv_iadd hx hb dX9_digest_122 ?_
                    refine ra_ld hx hb hK hP 1 0 rfl rfl (j := (43 + k3_105)) (nadd (rfl : (43 : Int32) = nI 43) (rfl : (nI k3_105) = nI k3_105)) (by omega) (by omega) dX9_digest_123 ?_
                    refine lv_i2l hx hb dX9_digest_124 rfl ?_
                    refine lv_ladd hx hb dX9_digest_125 ?_
                    refine lv_topl (fun x_18 ex_18 => ?_)
                    have hE := hE.trans (spLet_eq ex_18)
                    refine lv_lstore_n (lv' := [(1, .long x_18), (0, .ref q0), (3, .int (nI k3_105))]) hx hb dX9_digest_126 rfl hl (by decide) rfl (fun ls hl => ?_)
                    refine lv_iinc (v := (nI (k3_105 + 1))) (lv' := [(3, .int (nI (k3_105 + 1))), (1, .long x_18), (0, .ref q0)]) hx hb dX9_digest_127 hl (k := 2) rfl (show _ from (congrArg (fun z => z + Int32.ofInt 1) (rfl)).trans (ninc _ 1)) (by decide) rfl (fun ls hl => ?_)
                    refine lv_goto (tgt := 105) hx hb dX9_digest_130 (by decide) ?_
                    exact ih105 x_18 (k3_105 + 1) (by omega) ls (lv_sub hl [2, 1, 0] rfl) hE
              exact L105 5 x_6 0 (by omega) ls (lv_sub hl [2, 1, 0] rfl) hE
            ·
              have c_3 : ¬ 8 ≤ k3_54 := by
                have h1 : ((nI k3_54)) = nI k3_54 := rfl
                have h2 : ((8 : Int32)) = nI 8 := rfl
                have h3 : ¬ (nI 8 ≤ nI k3_54) := by first | exact c_3 | (rw [← h1, ← h2]; exact c_3)
                exact fun h => h3 ((nI_leI (by omega) (by omega)).mpr h)
              have hE := hE.trans (if_neg c_3)
              refine lv_ldc2 (v := 31) hx hb hown w_1 dX9_digest_60 ?_
              refine lv_lload_n hx hb dX9_digest_63 rfl (lv_at hl 1 rfl) ?_
              refine lv_lmul hx hb dX9_digest_64 ?_
              refine lv_aload_n hx hb dX9_digest_65 rfl (lv_at hl 0 rfl) ?_
              refine lv_iload_n hx hb dX9_digest_66 rfl (lv_at hl 2 rfl) ?_
              refine mj_i (wr := []) (va_runV (As := [.int (nI k3_54)]) (rest := [.long ((31 : Int64) * v1_54)]) ⟨hx, hb, hml, hown, hts⟩ (c_X9_limiterValue l dC dI cyI H.size q0 q1 q2 q3 q4 q5 q6 svc tl (0 : Int32) w0_6_54 w0_7_54 ati ors zs zv zt zp zm zk (nI k3_54) hG) (cwV 1 hts (gBV b_807 b_808 b_809 b_5 b_810) rfl rfl rfl (by decide +kernel) ⟨Nat.le_of_ble_eq_true rfl, Nat.le_of_ble_eq_true rfl⟩) (prm_v eM_ok he hS hP hD hK (va_free (wc := [(q0, .inr (9, [.ref q1, .ref q2, .int svc, .ref q3, .int tl, .int (0 : Int32), .int w0_6_54, .int w0_7_54, .ref q4, .int ati, .int ors, .ref q5, .ref q6])), (q1, .inl (cyI, 246, .inl zs)), (q2, .inl (cyI, 984, .inl zv)), (q3, .inl (cyI, 80, .inl zt)), (q4, .inl (cyI, 5, .inl zp)), (q5, .inl (cyI, 40, .inl zm)), (q6, .inl (cyI, 40, .inl zk))]) hD hS hA [0, 1, 2, 3, 4, 5, 6] rfl) 0 rfl rfl rfl) rfl rfl hl.1 rfl (lv_room (Nat.le_of_ble_eq_true rfl)) dX9_digest_67 ⟨Nat.le_of_ble_eq_true rfl, Nat.le_of_ble_eq_true rfl⟩) hP hD hS hA [0, 1, 2, 3, 4, 5, 6] [] rfl rfl (by decide) (by decide) (fun r_20 u_19 H locs hw hP hD hS => ?_)
              obtain ⟨hu_19, rfl⟩ := hw
              have hE := hE.trans (spLet_eq hu_19)
              have hP : va_P (dC, dI) vwCl [(q0, .inr (9, [.ref q1, .ref q2, .int svc, .ref q3, .int tl, .int (0 : Int32), .int (u_19.2.1), .int (u_19.2.2), .ref q4, .int ati, .int ors, .ref q5, .ref q6])), (q1, .inl (cyI, 246, .inl zs)), (q2, .inl (cyI, 984, .inl zv)), (q3, .inl (cyI, 80, .inl zt)), (q4, .inl (cyI, 5, .inl zp)), (q5, .inl (cyI, 40, .inl zm)), (q6, .inl (cyI, 40, .inl zk))] H := hP
              have hD : va_D A [(q0, .inr (9, [.ref q1, .ref q2, .int svc, .ref q3, .int tl, .int (0 : Int32), .int (u_19.2.1), .int (u_19.2.2), .ref q4, .int ati, .int ors, .ref q5, .ref q6])), (q1, .inl (cyI, 246, .inl zs)), (q2, .inl (cyI, 984, .inl zv)), (q3, .inl (cyI, 80, .inl zt)), (q4, .inl (cyI, 5, .inl zp)), (q5, .inl (cyI, 40, .inl zm)), (q6, .inl (cyI, 40, .inl zk))] := hD
              refine lv_i2l hx hb dX9_digest_70 rfl ?_
              refine lv_ladd hx hb dX9_digest_71 ?_
              refine lv_topl (fun x_21 ex_21 => ?_)
              have hE := hE.trans (spLet_eq ex_21)
              refine lv_lstore_n (lv' := [(1, .long x_21), (0, .ref q0), (3, .int (nI k3_54))]) hx hb dX9_digest_72 rfl hl (by decide) rfl (fun ls hl => ?_)
              refine lv_iinc (v := (nI (k3_54 + 1))) (lv' := [(3, .int (nI (k3_54 + 1))), (1, .long x_21), (0, .ref q0)]) hx hb dX9_digest_73 hl (k := 2) rfl (show _ from (congrArg (fun z => z + Int32.ofInt 1) (rfl)).trans (ninc _ 1)) (by decide) rfl (fun ls hl => ?_)
              refine lv_goto (tgt := 54) hx hb dX9_digest_76 (by decide) ?_
              exact ih54 x_21 (k3_54 + 1) (u_19.2.1) (u_19.2.2) (by omega) _ _ hP hD hS ls (lv_sub hl [2, 1, 0] rfl) hE
        exact L54 9 v1_27 0 mm mr (by omega) _ _ hP hD hS ls (lv_sub hl [1, 2, 0] rfl) hE
      ·
        have c_2 : ¬ 12 ≤ k3_27 := by
          have h1 : ((nI k3_27)) = nI k3_27 := rfl
          have h2 : ((12 : Int32)) = nI 12 := rfl
          have h3 : ¬ (nI 12 ≤ nI k3_27) := by first | exact c_2 | (rw [← h1, ← h2]; exact c_2)
          exact fun h => h3 ((nI_leI (by omega) (by omega)).mpr h)
        have hE := hE.trans (if_neg c_2)
        refine lv_ldc2 (v := 31) hx hb hown w_1 dX9_digest_33 ?_
        refine lv_lload_n hx hb dX9_digest_36 rfl (lv_at hl 1 rfl) ?_
        refine lv_lmul hx hb dX9_digest_37 ?_
        refine lv_aload_n hx hb dX9_digest_38 rfl (lv_at hl 0 rfl) ?_
        refine lv_iload_n hx hb dX9_digest_39 rfl (lv_at hl 2 rfl) ?_
        refine vp_callSi (W.runV (As := [.int (nI k3_27)]) (rest := [.long ((31 : Int64) * v1_27)]) ⟨hx, hb, hml, hown, hts⟩ (c_X9_boomValue l dC dI cyI q0 q1 q2 q3 q4 q5 q6 svc tl (0 : Int32) mm mr ati ors zs zv zt zp zm zk (nI k3_27) hG) (cwV 1 hts (gBV b_786 b_787 b_788 b_5 b_789) rfl rfl rfl (by decide +kernel) ⟨Nat.le_of_ble_eq_true rfl, Nat.le_of_ble_eq_true rfl⟩) (pre_v eM_ok he hS hP hK 0 rfl rfl rfl) rfl rfl hl.1 rfl (lv_room (Nat.le_of_ble_eq_true rfl)) dX9_digest_40 ⟨Nat.zero_le _, Nat.zero_le _⟩) (fun r_22 hr_22 => ?_)
        have hE := hE.trans (spLet_eq hr_22)
        refine lv_i2l hx hb dX9_digest_43 rfl ?_
        refine lv_ladd hx hb dX9_digest_44 ?_
        refine lv_topl (fun x_23 ex_23 => ?_)
        have hE := hE.trans (spLet_eq ex_23)
        refine lv_lstore_n (lv' := [(1, .long x_23), (0, .ref q0), (3, .int (nI k3_27))]) hx hb dX9_digest_45 rfl hl (by decide) rfl (fun ls hl => ?_)
        refine lv_iinc (v := (nI (k3_27 + 1))) (lv' := [(3, .int (nI (k3_27 + 1))), (1, .long x_23), (0, .ref q0)]) hx hb dX9_digest_46 hl (k := 2) rfl (show _ from (congrArg (fun z => z + Int32.ofInt 1) (rfl)).trans (ninc _ 1)) (by decide) rfl (fun ls hl => ?_)
        refine lv_goto (tgt := 27) hx hb dX9_digest_49 (by decide) ?_
        exact ih27 x_23 (k3_27 + 1) (by omega) ls (lv_sub hl [2, 1, 0] rfl) hE
  exact L27 13 x_1 0 (by omega) ls (lv_sub hl [2, 1, 0] rfl) hE

