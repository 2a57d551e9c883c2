def m_windNow_b4 (zs : Nat → Int32) (rec4 : Int32 → Nat → (Int32)) : Int32 → Nat → (Int32) :=
  fun v1_4 k2_4 => if 4 ≤ k2_4 then v1_4 else (spLet (m_greater v1_4 (zs (14 + k2_4))) (fun r_2 => rec4 r_2 (k2_4 + 1)))
def m_windNow (zs : Nat → Int32) : Int32 :=
  spIter (fun _ _ => default) (m_windNow_b4 zs) 5 (0 : Int32) 0
set_option maxHeartbeats 1000000 in
set_option maxRecDepth 100000 in
theorem c_X9_windNow (l : Launch) (dC : Nat → ClassId) (dI : Nat → Nat → Nat) (cyI : ClassId) (q0 : Nat) (q1 : Nat) (q2 : Nat) (q3 : Nat) (q4 : Nat) (q5 : Nat) (q6 : Nat) (svc : Int32) (tl : Int32) (cde : Int32) (mm : Int32) (mr : Int32) (ati : Int32) (ors : Int32) (zs : Nat → Int32) (zv : Nat → Int32) (zt : Nat → Int32) (zp : Nat → Int32) (zm : Nat → Int32) (zk : Nat → Int32) : Met l yX9_windNow wqX9_windNow ({ frames := 1, cells := 0, slots := 0, locals := 21 } : Room) (va_Pc [.ref q0] (pB (dC, dI) [(q0, .inr (9, [.ref q1, .ref q2, .int svc, .ref q3, .int tl, .int cde, .int mm, .int mr, .ref q4, .int ati, .int ors, .ref q5, .ref q6])), (q1, .inl (cyI, 246, .inl zs)), (q2, .inl (cyI, 984, .inl zv)), (q3, .inl (cyI, 80, .inl zt)), (q4, .inl (cyI, 5, .inl zp)), (q5, .inl (cyI, 40, .inl zm)), (q6, .inl (cyI, 40, .inl zk))] [(cyI, .int)] eM)) (vp_Si (fun r => r = (m_windNow zs))) 0 0 aF := by
  refine Met.ofW (cc := cX9_windNow) (maxL := 3) (ret := (some .int)) (by decide) rfl ?_
  intro p e s m args below meth c s₁ B hml hv
  obtain ⟨rfl, hP, hK, he⟩ := hv
  have hx := B.exec
  have hb := B.bytes
  have hr := B.returns
  have hts := atoms_spec (ws := wqX9_windNow) B.pre
  have hown : s.vm.findClass RX9 = some m.cls := findClass_of_methodNamed B.named
  have hlocks := B.notSynchronized
  have w_0 := hts (Cond.fieldLink RX9 7 "CraneLimiterModel" "s" "[I") (List.mem_cons_of_mem _ b_93)
  have i_X9 : ∀ w ∈ u_ws RX9 TX9 13, w ∈ wqX9_windNow := fun w h => List.mem_cons_of_mem _ (bX9 w h)
  have hS : va_S aF s.heap s.heap [] := va_S.rf
  have hP : va_P (dC, dI) vwCl [(q0, .inr (9, [.ref q1, .ref q2, .int svc, .ref q3, .int tl, .int cde, .int mm, .int mr, .ref q4, .int ati, .int ors, .ref q5, .ref q6])), (q1, .inl (cyI, 246, .inl zs)), (q2, .inl (cyI, 984, .inl zv)), (q3, .inl (cyI, 80, .inl zt)), (q4, .inl (cyI, 5, .inl zp)), (q5, .inl (cyI, 40, .inl zm)), (q6, .inl (cyI, 40, .inl zk))] s.heap := hP
  have hl := lv_entry ([.ref q0] : List Value) (n := 3) (Nat.le_of_ble_eq_true rfl)
  rw [lg_entry_eq]
  generalize (lg_sl ([.ref q0] : List Value) ++ List.replicate (3 - (lg_sl ([.ref q0] : List Value)).length) Slot.unset).toArray = ls at hl ⊢
  have hl : lv_has ls 3 [(0, .ref q0)] := hl
  have hE : m_windNow zs = m_windNow zs := rfl
  refine lv_iconst (v := 0) hx hb dX9_windNow_0 (by decide) ?_
  refine lv_istore_n (lv' := [(1, .int (0 : Int32)), (0, .ref q0)]) hx hb dX9_windNow_1 rfl hl (by decide) rfl (fun ls hl => ?_)
  refine lv_iconst (v := 0) hx hb dX9_windNow_2 (by decide) ?_
  refine lv_istore_n (lv' := [(2, .int (0 : Int32)), (1, .int (0 : Int32)), (0, .ref q0)]) hx hb dX9_windNow_3 rfl hl (by decide) rfl (fun ls hl => ?_)
  have L4 : ∀ (n4 : Nat) (v1_4 : Int32) (k2_4 : Nat) (hi : k2_4 ≤ 4 ∧ 4 < k2_4 + n4) (ls : Array Slot) (hl : lv_has ls 3 [(0, .ref q0), (1, .int v1_4), (2, .int (nI k2_4))]) (hE : (m_windNow zs) = spIter (fun _ _ => default) (m_windNow_b4 zs) n4 v1_4 k2_4), W p l e (headSpec wqX9_windNow ({ frames := 1, cells := 0, slots := 0, locals := 21 } : Room)).room s m ([.ref q0] : List Value).toArray below meth c s.heap [] 0 0 (MQ below (vp_Si (fun r => r = (m_windNow zs))) ([.ref q0] : List Value).toArray s 0 0 aF) (F0 m 4 ls []) := by
    intro n4
    induction n4 with
    | zero =>
      intro v1_4 k2_4 hi ls hl hE
      exact absurd hi (by omega)
    | succ n4 ih4 =>
      intro v1_4 k2_4 hi ls hl hE
      have hE : (m_windNow zs) = m_windNow_b4 zs (spIter (fun _ _ => default) (m_windNow_b4 zs) n4) v1_4 k2_4 := hE
      refine lv_iload_n hx hb dX9_windNow_4 rfl (lv_at hl 2 rfl) ?_
      refine lv_iconst (v := 4) hx hb dX9_windNow_5 (by decide) ?_
      refine lv_icmp_ge (tgt := 29) hx hb dX9_windNow_6 (by decide) (fun c_1 => ?_) (fun c_1 => ?_)
      ·
        have c_1 : 4 ≤ k2_4 := by
          have h1 : ((nI k2_4)) = nI k2_4 := rfl
          have h2 : ((4 : Int32)) = nI 4 := rfl
          have h3 : (nI 4 ≤ nI k2_4) := by first | exact c_1 | (rw [← h1, ← h2]; exact c_1)
          exact (nI_leI (by omega) (by omega)).mp h3
        have hE := hE.trans (if_pos c_1)
        refine lv_iload_n hx hb dX9_windNow_29 rfl (lv_at hl 1 rfl) ?_
        exact W.iret (v := v1_4) hx hb hr (fun t ht hW => ⟨_, rfl, hE.symm, ht⟩) (fun q h => by cases h) dX9_windNow_30
      ·
        have c_1 : ¬ 4 ≤ k2_4 := by
          have h1 : ((nI k2_4)) = nI k2_4 := rfl
          have h2 : ((4 : Int32)) = nI 4 := rfl
          have h3 : ¬ (nI 4 ≤ nI k2_4) := by first | exact c_1 | (rw [← h1, ← h2]; exact c_1)
          exact fun h => h3 ((nI_leI (by omega) (by omega)).mpr h)
        have hE := hE.trans (if_neg c_1)
        refine lv_iload_n hx hb dX9_windNow_9 rfl (lv_at hl 1 rfl) ?_
        refine lv_aload_n hx hb dX9_windNow_10 rfl (lv_at hl 0 rfl) ?_
        refine va_get (D := (dC, dI)) (ci := 9) (v := .ref q1) (C := RX9) (T := TX9) (N := 13) hx hb hts i_X9 hown hK hP 0 rfl rfl 0 (by decide) w_0 (fun _ h9 => h9) rfl dX9_windNow_11 ?_
        refine lv_bipush (v := 14) hx hb dX9_windNow_14 (by decide) ?_
        refine lv_iload_n hx hb dX9_windNow_16 rfl (lv_at hl 2 rfl) ?_
        refine lv_iadd hx hb dX9_windNow_17 ?_
        refine ra_ld hx hb hK hP 1 0 rfl rfl (j := (14 + k2_4)) (nadd (rfl : (14 : Int32) = nI 14) (rfl : (nI k2_4) = nI k2_4)) (by omega) (by omega) dX9_windNow_18 ?_
        refine vp_callSi (W.runS (As := [.int v1_4, .int (zs (14 + k2_4))]) (rest := []) ⟨hx, hb, hml, hown, hts⟩ (c_X9_greater l dC dI cyI v1_4 (zs (14 + k2_4))) (va_cwS 2 hts (gBS b_393 b_394 b_5 b_395) rfl rfl rfl (by decide +kernel) ⟨Nat.le_of_ble_eq_true rfl, Nat.le_of_ble_eq_true rfl⟩) (pre_s eM_ok he hS (hP.sub (ws' := []) [] rfl) (hK.sub (tys' := []) [] rfl)) rfl rfl hl.1 rfl (lv_room (Nat.le_of_ble_eq_true rfl)) dX9_windNow_19 ⟨Nat.zero_le _, Nat.zero_le _⟩) (fun r_2 hr_2 => ?_)
        have hE := hE.trans (spLet_eq hr_2)
        refine lv_istore_n (lv' := [(1, .int r_2), (0, .ref q0), (2, .int (nI k2_4))]) hx hb dX9_windNow_22 rfl hl (by decide) rfl (fun ls hl => ?_)
        refine lv_iinc (v := (nI (k2_4 + 1))) (lv' := [(2, .int (nI (k2_4 + 1))), (1, .int r_2), (0, .ref q0)]) hx hb dX9_windNow_23 hl (k := 2) rfl (show _ from (congrArg (fun z => z + Int32.ofInt 1) (rfl)).trans (ninc _ 1)) (by decide) rfl (fun ls hl => ?_)
        refine lv_goto (tgt := 4) hx hb dX9_windNow_26 (by decide) ?_
        exact ih4 r_2 (k2_4 + 1) (by omega) ls (lv_sub hl [2, 1, 0] rfl) hE
  exact L4 5 (0 : Int32) 0 (by omega) ls (lv_sub hl [2, 1, 0] rfl) hE
def m_tableAt_j55 (k3_4 : Nat) (rec4 : Int32 → Nat → (Int32)) (t0_55 : Int32) : Int32 :=
  rec4 t0_55 (k3_4 + 1)
def m_tableAt_b4 (zs : Nat → Int32) (slew : Int32) (rec4 : Int32 → Nat → (Int32)) : Int32 → Nat → (Int32) :=
  fun v2_4 k3_4 => if 4 ≤ k3_4 then v2_4 else (if (zs 10) = 0 then (spLet (m_apart slew (nI (450 + (900 * k3_4)))) (fun r_4 => if (900 : Int32) ≤ r_4 then (m_tableAt_j55 k3_4 rec4 v2_4) else (spLet (m_lesser v2_4 (zs (43 + k3_4))) (fun r_6 => m_tableAt_j55 k3_4 rec4 r_6)))) else v2_4)
def m_tableAt (zs : Nat → Int32) (slew : Int32) : Int32 :=
  spIter (fun _ _ => default) (m_tableAt_b4 zs slew) 5 (3 : Int32) 0
set_option maxHeartbeats 1000000 in
set_option maxRecDepth 100000 in
theorem c_X9_tableAt (l : Launch) (dC : Nat → ClassId) (dI : Nat → Nat → Nat) (cyI : ClassId) (q0 : Nat) (q1 : Nat) (q2 : Nat) (q3 : Nat) (q4 : Nat) (q5 : Nat) (q6 : Nat) (svc : Int32) (tl : Int32) (cde : Int32) (mm : Int32) (mr : Int32) (ati : Int32) (ors : Int32) (zs : Nat → Int32) (zv : Nat → Int32) (zt : Nat → Int32) (zp : Nat → Int32) (zm : Nat → Int32) (zk : Nat → Int32) (slew : Int32) : Met l yX9_tableAt wqX9_tableAt ({ frames := 2, cells := 0, slots := 0, locals := 43 } : Room) (va_Pc [.ref q0, .int slew] (pB (dC, dI) [(q0, .inr (9, [.ref q1, .ref q2, .int svc, .ref q3, .int tl, .int cde, .int mm, .int mr, .ref q4, .int ati, .int ors, .ref q5, .ref q6])), (q1, .inl (cyI, 246, .inl zs)), (q2, .inl (cyI, 984, .inl zv)), (q3, .inl (cyI, 80, .inl zt)), (q4, .inl (cyI, 5, .inl zp)), (q5, .inl (cyI, 40, .inl zm)), (q6, .inl (cyI, 40, .inl zk))] [(cyI, .int)] eM)) (vp_Si (fun r => r = (m_tableAt zs slew))) 0 0 aF := by
  refine Met.ofW (cc := cX9_tableAt) (maxL := 4) (ret := (some .int)) (by decide) rfl ?_
  intro p e s m args below meth c s₁ B hml hv
  obtain ⟨rfl, hP, hK, he⟩ := hv
  have hx := B.exec
  have hb := B.bytes
  have hr := B.returns
  have hts := atoms_spec (ws := wqX9_tableAt) B.pre
  have hown : s.vm.findClass RX9 = some m.cls := findClass_of_methodNamed B.named
  have hlocks := B.notSynchronized
  have w_0 := hts (Cond.fieldLink RX9 7 "CraneLimiterModel" "s" "[I") (List.mem_cons_of_mem _ b_93)
  have i_X9 : ∀ w ∈ u_ws RX9 TX9 13, w ∈ wqX9_tableAt := fun w h => List.mem_cons_of_mem _ (bX9 w h)
  have hS : va_S aF s.heap s.heap [] := va_S.rf
  have hP : va_P (dC, dI) vwCl [(q0, .inr (9, [.ref q1, .ref q2, .int svc, .ref q3, .int tl, .int cde, .int mm, .int mr, .ref q4, .int ati, .int ors, .ref q5, .ref q6])), (q1, .inl (cyI, 246, .inl zs)), (q2, .inl (cyI, 984, .inl zv)), (q3, .inl (cyI, 80, .inl zt)), (q4, .inl (cyI, 5, .inl zp)), (q5, .inl (cyI, 40, .inl zm)), (q6, .inl (cyI, 40, .inl zk))] s.heap := hP
  have hl := lv_entry ([.ref q0, .int slew] : List Value) (n := 4) (Nat.le_of_ble_eq_true rfl)
  rw [lg_entry_eq]
  generalize (lg_sl ([.ref q0, .int slew] : List Value) ++ List.replicate (4 - (lg_sl ([.ref q0, .int slew] : List Value)).length) Slot.unset).toArray = ls at hl ⊢
  have hl : lv_has ls 4 [(0, .ref q0), (1, .int slew)] := hl
  have hE : m_tableAt zs slew = m_tableAt zs slew := rfl
  refine lv_iconst (v := 3) hx hb dX9_tableAt_0 (by decide) ?_
  refine lv_istore_n (lv' := [(2, .int (3 : Int32)), (0, .ref q0), (1, .int slew)]) hx hb dX9_tableAt_1 rfl hl (by decide) rfl (fun ls hl => ?_)
  refine lv_iconst (v := 0) hx hb dX9_tableAt_2 (by decide) ?_
  refine lv_istore_n (lv' := [(3, .int (0 : Int32)), (2, .int (3 : Int32)), (0, .ref q0), (1, .int slew)]) hx hb dX9_tableAt_3 rfl hl (by decide) rfl (fun ls hl => ?_)
  have L4 : ∀ (n4 : Nat) (v2_4 : Int32) (k3_4 : Nat) (hi : k3_4 ≤ 4 ∧ 4 < k3_4 + n4) (ls : Array Slot) (hl : lv_has ls 4 [(0, .ref q0), (1, .int slew), (2, .int v2_4), (3, .int (nI k3_4))]) (hE : (m_tableAt zs slew) = spIter (fun _ _ => default) (m_tableAt_b4 zs slew) n4 v2_4 k3_4), W p l e (headSpec wqX9_tableAt ({ frames := 2, cells := 0, slots := 0, locals := 43 } : Room)).room s m ([.ref q0, .int slew] : List Value).toArray below meth c s.heap [] 0 0 (MQ below (vp_Si (fun r => r = (m_tableAt zs slew))) ([.ref q0, .int slew] : List Value).toArray s 0 0 aF) (F0 m 4 ls []) := by
    intro n4
    induction n4 with
    | zero =>
      intro v2_4 k3_4 hi ls hl hE
      exact absurd hi (by omega)
    | succ n4 ih4 =>
      intro v2_4 k3_4 hi ls hl hE
      have hE : (m_tableAt zs slew) = m_tableAt_b4 zs slew (spIter (fun _ _ => default) (m_tableAt_b4 zs slew) n4) v2_4 k3_4 := hE
      refine lv_iload_n hx hb dX9_tableAt_4 rfl (lv_at hl 3 rfl) ?_
      refine lv_iconst (v := 4) hx hb dX9_tableAt_5 (by decide) ?_
      refine lv_icmp_ge (tgt := 62) hx hb dX9_tableAt_6 (by decide) (fun c_1 => ?_) (fun c_1 => ?_)
      ·
        have c_1 : 4 ≤ k3_4 := by
          have h1 : ((nI k3_4)) = nI k3_4 := rfl
          have h2 : ((4 : Int32)) = nI 4 := rfl
          have h3 : (nI 4 ≤ nI k3_4) := by first | exact c_1 | (rw [← h1, ← h2]; exact c_1)
          exact (nI_leI (by omega) (by omega)).mp h3
        have hE := hE.trans (if_pos c_1)
        refine lv_iload_n hx hb dX9_tableAt_62 rfl (lv_at hl 2 rfl) ?_
        exact W.iret (v := v2_4) hx hb hr (fun t ht hW => ⟨_, rfl, hE.symm, ht⟩) (fun q h => by cases h) dX9_tableAt_63
      ·
        have c_1 : ¬ 4 ≤ k3_4 := by
          have h1 : ((nI k3_4)) = nI k3_4 := rfl
          have h2 : ((4 : Int32)) = nI 4 := rfl
          have h3 : ¬ (nI 4 ≤ nI k3_4) := by first | exact c_1 | (rw [← h1, ← h2]; exact c_1)
          exact fun h => h3 ((nI_leI (by omega) (by omega)).mpr h)
        have hE := hE.trans (if_neg c_1)
        refine lv_aload_n hx hb dX9_tableAt_9 rfl (lv_at hl 0 rfl) ?_
        refine va_get (D := (dC, dI)) (ci := 9) (v := .ref q1) (C := RX9) (T := TX9) (N := 13) hx hb hts i_X9 hown hK hP 0 rfl rfl 0 (by decide) w_0 (fun _ h9 => h9) rfl dX9_tableAt_10 ?_
        refine lv_bipush (v := 10) hx hb dX9_tableAt_13 (by decide) ?_
        refine ra_ld hx hb hK hP 1 0 rfl rfl (j := 10) (rfl : (10 : Int32) = nI 10) (by omega) (by omega) dX9_tableAt_15 ?_
        refine lv_if_ne (tgt := 62) hx hb dX9_tableAt_16 (by decide) (fun c_2 => ?_) (fun c_2 => ?_)
        ·
          have hE := hE.trans (if_neg c_2)
          refine lv_iload_n hx hb dX9_tableAt_62 rfl (lv_at hl 2 rfl) ?_
          exact W.iret (v := v2_4) hx hb hr (fun t ht hW => ⟨_, rfl, hE.symm, ht⟩) (fun q h => by cases h) dX9_tableAt_63
        ·
          have hE := hE.trans (if_pos c_2)
          refine lv_iload_n hx hb dX9_tableAt_19 rfl (lv_at hl 1 rfl) ?_
          refine lv_sipush (v := 450) hx hb dX9_tableAt_20 (by decide) ?_
          refine lv_sipush (v := 900) hx hb dX9_tableAt_23 (by decide) ?_
          refine lv_iload_n hx hb dX9_tableAt_26 rfl (lv_at hl 3 rfl) ?_
          refine lv_imul hx hb dX9_tableAt_27 ?_
          refine lv_iadd hx hb dX9_tableAt_28 ?_
          refine lv_topi (fun y_3 ey_3 => ?_)
          obtain rfl : y_3 = nI (450 + (900 * k3_4)) := ey_3.trans (nadd (rfl : (450 : Int32) = nI 450) (nmul (rfl : (900 : Int32) = nI 900) (rfl : (nI k3_4) = nI k3_4)))
          refine vp_callSi (W.runS (As := [.int slew, .int (nI (450 + (900 * k3_4)))]) (rest := []) ⟨hx, hb, hml, hown, hts⟩ (c_X9_apart l dC dI cyI slew (nI (450 + (900 * k3_4)))) (va_cwS 2 hts (gBS b_718 b_719 b_5 b_720) rfl rfl rfl (by decide +kernel) ⟨Nat.le_of_ble_eq_true rfl, Nat.le_of_ble_eq_true rfl⟩) (pre_s eM_ok he hS (hP.sub (ws' := []) [] rfl) (hK.sub (tys' := []) [] rfl)) rfl rfl hl.1 rfl (lv_room (Nat.le_of_ble_eq_true rfl)) dX9_tableAt_29 ⟨Nat.zero_le _, Nat.zero_le _⟩) (fun r_4 hr_4 => ?_)
          have hE := hE.trans (spLet_eq hr_4)
          refine lv_sipush (v := 900) hx hb dX9_tableAt_32 (by decide) ?_
          have J55 : ∀ (t0_55 : Int32) (ls : Array Slot) (hl : lv_has ls 4 [(0, .ref q0), (1, .int slew), (3, .int (nI k3_4))]) (hE : (m_tableAt zs slew) = m_tableAt_j55 k3_4 (spIter (fun _ _ => default) (m_tableAt_b4 zs slew) n4) t0_55), W p l e (headSpec wqX9_tableAt ({ frames := 2, cells := 0, slots := 0, locals := 43 } : Room)).room s m ([.ref q0, .int slew] : List Value).toArray below meth c s.heap [] 0 0 (MQ below (vp_Si (fun r => r = (m_tableAt zs slew))) ([.ref q0, .int slew] : List Value).toArray s 0 0 aF) (F0 m 55 ls [.int t0_55]) := by
            intro t0_55 ls hl hE
            refine lv_istore_n (lv' := [(2, .int t0_55), (0, .ref q0), (1, .int slew), (3, .int (nI k3_4))]) hx hb dX9_tableAt_55 rfl hl (by decide) rfl (fun ls hl => ?_)
            refine lv_iinc (v := (nI (k3_4 + 1))) (lv' := [(3, .int (nI (k3_4 + 1))), (2, .int t0_55), (0, .ref q0), (1, .int slew)]) hx hb dX9_tableAt_56 hl (k := 3) rfl (show _ from (congrArg (fun z => z + Int32.ofInt 1) (rfl)).trans (ninc _ 1)) (by decide) rfl (fun ls hl => ?_)
            refine lv_goto (tgt := 4) hx hb dX9_tableAt_59 (by decide) ?_
            exact ih4 t0_55 (k3_4 + 1) (by omega) ls (lv_sub hl [2, 3, 1, 0] rfl) hE
          refine lv_icmp_ge (tgt := 54) hx hb dX9_tableAt_35 (by decide) (fun c_5 => ?_) (fun c_5 => ?_)
          ·
            have hE := hE.trans (if_pos c_5)
            refine lv_iload_n hx hb dX9_tableAt_54 rfl (lv_at hl 2 rfl) ?_
            exact J55 v2_4 ls (lv_sub hl [0, 1, 3] rfl) hE
          ·
            have hE := hE.trans (if_neg c_5)
            refine lv_iload_n hx hb dX9_tableAt_38 rfl (lv_at hl 2 rfl) ?_
            refine lv_aload_n hx hb dX9_tableAt_39 rfl (lv_at hl 0 rfl) ?_
            refine va_get (D := (dC, dI)) (ci := 9) (v := .ref q1) (C := RX9) (T := TX9) (N := 13) hx hb hts i_X9 hown hK hP 0 rfl rfl 0 (by decide) w_0 (fun _ h9 => h9) rfl dX9_tableAt_40 ?_
            refine lv_bipush (v := 43) hx hb dX9_tableAt_43 (by decide) ?_
            refine lv_iload_n hx hb dX9_tableAt_45 rfl (lv_at hl 3 rfl) ?_
            refine lv_iadd hx hb dX9_tableAt_46 ?_
            refine ra_ld hx hb hK hP 1 0 rfl rfl (j := (43 + k3_4)) (nadd (rfl : (43 : Int32) = nI 43) (rfl : (nI k3_4) = nI k3_4)) (by omega) (by omega) dX9_tableAt_47 ?_
            refine vp_callSi (W.runS (As := [.int v2_4, .int (zs (43 + k3_4))]) (rest := []) ⟨hx, hb, hml, hown, hts⟩ (c_X9_lesser l dC dI cyI v2_4 (zs (43 + k3_4))) (va_cwS 2 hts (gBS b_267 b_268 b_5 b_269) rfl rfl rfl (by decide +kernel) ⟨Nat.le_of_ble_eq_true rfl, Nat.le_of_ble_eq_true rfl⟩) (pre_s eM_ok he hS (hP.sub (ws' := []) [] rfl) (hK.sub (tys' := []) [] rfl)) rfl rfl hl.1 rfl (lv_room (Nat.le_of_ble_eq_true rfl)) dX9_tableAt_48 ⟨Nat.zero_le _, Nat.zero_le _⟩) (fun r_6 hr_6 => ?_)
            have hE := hE.trans (spLet_eq hr_6)
            refine lv_goto (tgt := 55) hx hb dX9_tableAt_51 (by decide) ?_
            exact J55 r_6 ls (lv_sub hl [0, 1, 3] rfl) hE
  exact L4 5 (3 : Int32) 0 (by omega) ls (lv_sub hl [2, 3, 1, 0] rfl) hE
def m_sumOf_b4 (zs : Nat → Int32) (t : Nat) (rec4 : Int32 → Nat → (Int32)) : Int32 → Nat → (Int32) :=
  fun v2_4 k3_4 => if 24 ≤ k3_4 then v2_4 else (spLet ((v2_4 + (zs ((47 + (24 * t)) + k3_4)))) (fun x_3 => rec4 x_3 (k3_4 + 1)))
def m_sumOf (zs : Nat → Int32) (t : Nat) : Int32 :=
  spIter (fun _ _ => default) (m_sumOf_b4 zs t) 25 (0 : Int32) 0
set_option maxHeartbeats 1000000 in
set_option maxRecDepth 100000 in
theorem c_X9_sumOf (l : Launch) (dC : Nat → ClassId) (dI : Nat → Nat → Nat) (cyI : ClassId) (q0 : Nat) (q1 : Nat) (q2 : Nat) (q3 : Nat) (q4 : Nat) (q5 : Nat) (q6 : Nat) (svc : Int32) (tl : Int32) (cde : Int32) (mm : Int32) (mr : Int32) (ati : Int32) (ors : Int32) (zs : Nat → Int32) (zv : Nat → Int32) (zt : Nat → Int32) (zp : Nat → Int32) (zm : Nat → Int32) (zk : Nat → Int32) (t : Nat) (ht : t < 4) : Met l yX9_sumOf wqX9_sumOf ({ frames := 0, cells := 0, slots := 0, locals := 0 } : Room) (va_Pc [.ref q0, .int (nI t)] (pB (dC, dI) [(q0, .inr (9, [.ref q1, .ref q2, .int svc, .ref q3, .int tl, .int cde, .int mm, .int mr, .ref q4, .int ati, .int ors, .ref q5, .ref q6])), (q1, .inl (cyI, 246, .inl zs)), (q2, .inl (cyI, 984, .inl zv)), (q3, .inl (cyI, 80, .inl zt)), (q4, .inl (cyI, 5, .inl zp)), (q5, .inl (cyI, 40, .inl zm)), (q6, .inl (cyI, 40, .inl zk))] [(cyI, .int)] eM)) (vp_Si (fun r => r = (m_sumOf zs t))) 0 0 aF := by
  refine Met.ofW (cc := cX9_sumOf) (maxL := 4) (ret := (some .int)) (by decide) rfl ?_
  intro p e s m args below meth c s₁ B hml hv
  obtain ⟨rfl, hP, hK, he⟩ := hv
  have hx := B.exec
  have hb := B.bytes
  have hr := B.returns
  have hts := atoms_spec (ws := wqX9_sumOf) B.pre
  have hown : s.vm.findClass RX9 = some m.cls := findClass_of_methodNamed B.named
  have hlocks := B.notSynchronized
  have w_0 := hts (Cond.fieldLink RX9 7 "CraneLimiterModel" "s" "[I") (List.mem_cons_of_mem _ b_93)
  have i_X9 : ∀ w ∈ u_ws RX9 TX9 13, w ∈ wqX9_sumOf := fun w h => List.mem_cons_of_mem _ (bX9 w h)
  have hS : va_S aF s.heap s.heap [] := va_S.rf
  have hP : va_P (dC, dI) vwCl [(q0, .inr (9, [.ref q1, .ref q2, .int svc, .ref q3, .int tl, .int cde, .int mm, .int mr, .ref q4, .int ati, .int ors, .ref q5, .ref q6])), (q1, .inl (cyI, 246, .inl zs)), (q2, .inl (cyI, 984, .inl zv)), (q3, .inl (cyI, 80, .inl zt)), (q4, .inl (cyI, 5, .inl zp)), (q5, .inl (cyI, 40, .inl zm)), (q6, .inl (cyI, 40, .inl zk))] s.heap := hP
  have hl := lv_entry ([.ref q0, .int (nI t)] : List Value) (n := 4) (Nat.le_of_ble_eq_true rfl)
  rw [lg_entry_eq]
  generalize (lg_sl ([.ref q0, .int (nI t)] : List Value) ++ List.replicate (4 - (lg_sl ([.ref q0, .int (nI t)] : List Value)).length) Slot.unset).toArray = ls at hl ⊢
  have hl : lv_has ls 4 [(0, .ref q0), (1, .int (nI t))] := hl
  have hE : m_sumOf zs t = m_sumOf zs t := rfl
  refine lv_iconst (v := 0) hx hb dX9_sumOf_0 (by decide) ?_
  refine lv_istore_n (lv' := [(2, .int (0 : Int32)), (0, .ref q0), (1, .int (nI t))]) hx hb dX9_sumOf_1 rfl hl (by decide) rfl (fun ls hl => ?_)
  refine lv_iconst (v := 0) hx hb dX9_sumOf_2 (by decide) ?_
  refine lv_istore_n (lv' := [(3, .int (0 : Int32)), (2, .int (0 : Int32)), (0, .ref q0), (1, .int (nI t))]) hx hb dX9_sumOf_3 rfl hl (by decide) rfl (fun ls hl => ?_)
  have L4 : ∀ (n4 : Nat) (v2_4 : Int32) (k3_4 : Nat) (hi : k3_4 ≤ 24 ∧ 24 < k3_4 + n4) (ls : Array Slot) (hl : lv_has ls 4 [(0, .ref q0), (1, .int (nI t)), (2, .int v2_4), (3, .int (nI k3_4))]) (hE : (m_sumOf zs t) = spIter (fun _ _ => default) (m_sumOf_b4 zs t) n4 v2_4 k3_4), W p l e (headSpec wqX9_sumOf ({ frames := 0, cells := 0, slots := 0, locals := 0 } : Room)).room s m ([.ref q0, .int (nI t)] : List Value).toArray below meth c s.heap [] 0 0 (MQ below (vp_Si (fun r => r = (m_sumOf zs t))) ([.ref q0, .int (nI t)] : List Value).toArray s 0 0 aF) (F0 m 4 ls []) := by
    intro n4
    induction n4 with
    | zero =>
      intro v2_4 k3_4 hi ls hl hE
      exact absurd hi (by omega)
    | succ n4 ih4 =>
      intro v2_4 k3_4 hi ls hl hE
      have hE : (m_sumOf zs t) = m_sumOf_b4 zs t (spIter (fun _ _ => default) (m_sumOf_b4 zs t) n4) v2_4 k3_4 := hE
      refine lv_iload_n hx hb dX9_sumOf_4 rfl (lv_at hl 3 rfl) ?_
      refine lv_bipush (v := 24) hx hb dX9_sumOf_5 (by decide) ?_
      refine lv_icmp_ge (tgt := 33) hx hb dX9_sumOf_7 (by decide) (fun c_1 => ?_) (fun c_1 => ?_)
      ·
        have c_1 : 24 ≤ k3_4 := by
          have h1 : ((nI k3_4)) = nI k3_4 := rfl
          have h2 : ((24 : Int32)) = nI 24 := rfl
          have h3 : (nI 24 ≤ nI k3_4) := by first | exact c_1 | (rw [← h1, ← h2]; exact c_1)
          exact (nI_leI (by omega) (by omega)).mp h3
        have hE := hE.trans (if_pos c_1)
        refine lv_iload_n hx hb dX9_sumOf_33 rfl (lv_at hl 2 rfl) ?_
        exact W.iret (v := v2_4) hx hb hr (fun t ht hW => ⟨_, rfl, hE.symm, ht⟩) (fun q h => by cases h) dX9_sumOf_34
      ·
        have c_1 : ¬ 24 ≤ k3_4 := by
          have h1 : ((nI k3_4)) = nI k3_4 := rfl
          have h2 : ((24 : Int32)) = nI 24 := rfl
          have h3 : ¬ (nI 24 ≤ nI k3_4) := by first | exact c_1 | (rw [← h1, ← h2]; exact c_1)
          exact fun h => h3 ((nI_leI (by omega) (by omega)).mpr h)
        have hE := hE.trans (if_neg c_1)
        refine lv_iload_n hx hb dX9_sumOf_10 rfl (lv_at hl 2 rfl) ?_
        refine lv_aload_n hx hb dX9_sumOf_11 rfl (lv_at hl 0 rfl) ?_
        refine va_get (D := (dC, dI)) (ci := 9) (v := .ref q1) (C := RX9) (T := TX9) (N := 13) hx hb hts i_X9 hown hK hP 0 rfl rfl 0 (by decide) w_0 (fun _ h9 => h9) rfl dX9_sumOf_12 ?_
        refine lv_bipush (v := 47) hx hb dX9_sumOf_15 (by decide) ?_
        refine lv_bipush (v := 24) hx hb dX9_sumOf_17 (by decide) ?_
        refine lv_iload_n hx hb dX9_sumOf_19 rfl (lv_at hl 1 rfl) ?_
        refine lv_imul hx hb dX9_sumOf_20 ?_
        refine lv_iadd hx hb dX9_sumOf_21 ?_
        refine lv_topi (fun y_2 ey_2 => ?_)
        obtain rfl : y_2 = nI (47 + (24 * t)) := ey_2.trans (nadd (rfl : (47 : Int32) = nI 47) (nmul (rfl : (24 : Int32) = nI 24) (rfl : (nI t) = nI t)))
        refine lv_iload_n hx hb dX9_sumOf_22 rfl (lv_at hl 3 rfl) ?_
        refine lv_iadd hx hb dX9_sumOf_23 ?_
        refine ra_ld hx hb hK hP 1 0 rfl rfl (j := ((47 + (24 * t)) + k3_4)) (nadd (rfl : (nI (47 + (24 * t))) = nI (47 + (24 * t))) (rfl : (nI k3_4) = nI k3_4)) (by omega) (by omega) dX9_sumOf_24 ?_
        refine lv_iadd hx hb dX9_sumOf_25 ?_
        refine lv_topi (fun x_3 ex_3 => ?_)
        have hE := hE.trans (spLet_eq ex_3)
        refine lv_istore_n (lv' := [(2, .int x_3), (0, .ref q0), (1, .int (nI t)), (3, .int (nI k3_4))]) hx hb dX9_sumOf_26 rfl hl (by decide) rfl (fun ls hl => ?_)
        refine lv_iinc (v := (nI (k3_4 + 1))) (lv' := [(3, .int (nI (k3_4 + 1))), (2, .int x_3), (0, .ref q0), (1, .int (nI t))]) hx hb dX9_sumOf_27 hl (k := 3) rfl (show _ from (congrArg (fun z => z + Int32.ofInt 1) (rfl)).trans (ninc _ 1)) (by decide) rfl (fun ls hl => ?_)
        refine lv_goto (tgt := 4) hx hb dX9_sumOf_30 (by decide) ?_
        exact ih4 x_3 (k3_4 + 1) (by omega) ls (lv_sub hl [2, 3, 1, 0] rfl) hE
  exact L4 25 (0 : Int32) 0 (by omega) ls (lv_sub hl [2, 3, 1, 0] rfl) hE
def m_sumOf_p_b4 (zs : Nat → Int32) (ta : Int32) (rec4 : Int32 → Nat → (Int32)) : Int32 → Nat → (Int32) :=
  fun v2_4 k3_4 => if 24 ≤ k3_4 then v2_4 else (spLet ((v2_4 + (zs ((47 + (24 * ta.toNatClampNeg)) + k3_4)))) (fun x_3 => rec4 x_3 (k3_4 + 1)))
def m_sumOf_p (zs : Nat → Int32) (ta : Int32) : Int32 :=
  spIter (fun _ _ => default) (m_sumOf_p_b4 zs ta) 25 (0 : Int32) 0
set_option maxHeartbeats 1000000 in
set_option maxRecDepth 100000 in
theorem c_X9_sumOf_p (l : Launch) (dC : Nat → ClassId) (dI : Nat → Nat → Nat) (cyI : ClassId) (q0 : Nat) (q1 : Nat) (q2 : Nat) (q3 : Nat) (q4 : Nat) (q5 : Nat) (q6 : Nat) (svc : Int32) (tl : Int32) (cde : Int32) (mm : Int32) (mr : Int32) (ati : Int32) (ors : Int32) (zs : Nat → Int32) (zv : Nat → Int32) (zt : Nat → Int32) (zp : Nat → Int32) (zm : Nat → Int32) (zk : Nat → Int32) (ta : Int32) (hta : ta = nI ta.toNatClampNeg) (bta : ta.toNatClampNeg < 4) : Met l yX9_sumOf wqX9_sumOf ({ frames := 0, cells := 0, slots := 0, locals := 0 } : Room) (va_Pc [.ref q0, .int ta] (pB (dC, dI) [(q0, .inr (9, [.ref q1, .ref q2, .int svc, .ref q3, .int tl, .int cde, .int mm, .int mr, .ref q4, .int ati, .int ors, .ref q5, .ref q6])), (q1, .inl (cyI, 246, .inl zs)), (q2, .inl (cyI, 984, .inl zv)), (q3, .inl (cyI, 80, .inl zt)), (q4, .inl (cyI, 5, .inl zp)), (q5, .inl (cyI, 40, .inl zm)), (q6, .inl (cyI, 40, .inl zk))] [(cyI, .int)] eM)) (vp_Si (fun r => r = (m_sumOf_p zs ta))) 0 0 aF := by
  refine Met.ofW (cc := cX9_sumOf) (maxL := 4) (ret := (some .int)) (by decide) rfl ?_
  intro p e s m args below meth c s₁ B hml hv
  obtain ⟨rfl, hP, hK, he⟩ := hv
  have hx := B.exec
  have hb := B.bytes
  have hr := B.returns
  have hts := atoms_spec (ws := wqX9_sumOf) B.pre
  have hown : s.vm.findClass RX9 = some m.cls := findClass_of_methodNamed B.named
  have hlocks := B.notSynchronized
  have w_0 := hts (Cond.fieldLink RX9 7 "CraneLimiterModel" "s" "[I") (List.mem_cons_of_mem _ b_93)
  have i_X9 : ∀ w ∈ u_ws RX9 TX9 13, w ∈ wqX9_sumOf := fun w h => List.mem_cons_of_mem _ (bX9 w h)
  have hS : va_S aF s.heap s.heap [] := va_S.rf
  have hP : va_P (dC, dI) vwCl [(q0, .inr (9, [.ref q1, .ref q2, .int svc, .ref q3, .int tl, .int cde, .int mm, .int mr, .ref q4, .int ati, .int ors, .ref q5, .ref q6])), (q1, .inl (cyI, 246, .inl zs)), (q2, .inl (cyI, 984, .inl zv)), (q3, .inl (cyI, 80, .inl zt)), (q4, .inl (cyI, 5, .inl zp)), (q5, .inl (cyI, 40, .inl zm)), (q6, .inl (cyI, 40, .inl zk))] s.heap := hP
  have hl := lv_entry ([.ref q0, .int ta] : List Value) (n := 4) (Nat.le_of_ble_eq_true rfl)
  rw [lg_entry_eq]
  generalize (lg_sl ([.ref q0, .int ta] : List Value) ++ List.replicate (4 - (lg_sl ([.ref q0, .int ta] : List Value)).length) Slot.unset).toArray = ls at hl ⊢
  have hl : lv_has ls 4 [(0, .ref q0), (1, .int ta)] := hl
  have hE : m_sumOf_p zs ta = m_sumOf_p zs ta := rfl
  refine lv_iconst (v := 0) hx hb dX9_sumOf_0 (by decide) ?_
  refine lv_istore_n (lv' := [(2, .int (0 : Int32)), (0, .ref q0), (1, .int ta)]) hx hb dX9_sumOf_1 rfl hl (by decide) rfl (fun ls hl => ?_)
  refine lv_iconst (v := 0) hx hb dX9_sumOf_2 (by decide) ?_
  refine lv_istore_n (lv' := [(3, .int (0 : Int32)), (2, .int (0 : Int32)), (0, .ref q0), (1, .int ta)]) hx hb dX9_sumOf_3 rfl hl (by decide) rfl (fun ls hl => ?_)
  have L4 : ∀ (n4 : Nat) (v2_4 : Int32) (k3_4 : Nat) (hi : k3_4 ≤ 24 ∧ 24 < k3_4 + n4) (ls : Array Slot) (hl : lv_has ls 4 [(0, .ref q0), (1, .int ta), (2, .int v2_4), (3, .int (nI k3_4))]) (hE : (m_sumOf_p zs ta) = spIter (fun _ _ => default) (m_sumOf_p_b4 zs ta) n4 v2_4 k3_4), W p l e (headSpec wqX9_sumOf ({ frames := 0, cells := 0, slots := 0, locals := 0 } : Room)).room s m ([.ref q0, .int ta] : List Value).toArray below meth c s.heap [] 0 0 (MQ below (vp_Si (fun r => r = (m_sumOf_p zs ta))) ([.ref q0, .int ta] : List Value).toArray s 0 0 aF) (F0 m 4 ls []) := by
    intro n4
    induction n4 with
    | zero =>
      intro v2_4 k3_4 hi ls hl hE
      exact absurd hi (by omega)
    | succ n4 ih4 =>
      intro v2_4 k3_4 hi ls hl hE
      have hE : (m_sumOf_p zs ta) = m_sumOf_p_b4 zs ta (spIter (fun _ _ => default) (m_sumOf_p_b4 zs ta) n4) v2_4 k3_4 := hE
      refine lv_iload_n hx hb dX9_sumOf_4 rfl (lv_at hl 3 rfl) ?_
      refine lv_bipush (v := 24) hx hb dX9_sumOf_5 (by decide) ?_
      refine lv_icmp_ge (tgt := 33) hx hb dX9_sumOf_7 (by decide) (fun c_1 => ?_) (fun c_1 => ?_)
      ·
        have c_1 : 24 ≤ k3_4 := by
          have h1 : ((nI k3_4)) = nI k3_4 := rfl
          have h2 : ((24 : Int32)) = nI 24 := rfl
          have h3 : (nI 24 ≤ nI k3_4) := by first | exact c_1 | (rw [← h1, ← h2]; exact c_1)
          exact (nI_leI (by omega) (by omega)).mp h3
        have hE := hE.trans (if_pos c_1)
        refine lv_iload_n hx hb dX9_sumOf_33 rfl (lv_at hl 2 rfl) ?_
        exact W.iret (v := v2_4) hx hb hr (fun t ht hW => ⟨_, rfl, hE.symm, ht⟩) (fun q h => by cases h) dX9_sumOf_34
      ·
        have c_1 : ¬ 24 ≤ k3_4 := by
          have h1 : ((nI k3_4)) = nI k3_4 := rfl
          have h2 : ((24 : Int32)) = nI 24 := rfl
          have h3 : ¬ (nI 24 ≤ nI k3_4) := by first | exact c_1 | (rw [← h1, ← h2]; exact c_1)
          exact fun h => h3 ((nI_leI (by omega) (by omega)).mpr h)
        have hE := hE.trans (if_neg c_1)
        refine lv_iload_n hx hb dX9_sumOf_10 rfl (lv_at hl 2 rfl) ?_
        refine lv_aload_n hx hb dX9_sumOf_11 rfl (lv_at hl 0 rfl) ?_
        refine va_get (D := (dC, dI)) (ci := 9) (v := .ref q1) (C := RX9) (T := TX9) (N := 13) hx hb hts i_X9 hown hK hP 0 rfl rfl 0 (by decide) w_0 (fun _ h9 => h9) rfl dX9_sumOf_12 ?_
        refine lv_bipush (v := 47) hx hb dX9_sumOf_15 (by decide) ?_
        refine lv_bipush (v := 24) hx hb dX9_sumOf_17 (by decide) ?_
        refine lv_iload_n hx hb dX9_sumOf_19 rfl (lv_at hl 1 rfl) ?_
        refine lv_imul hx hb dX9_sumOf_20 ?_
        refine lv_iadd hx hb dX9_sumOf_21 ?_
        refine lv_topi (fun y_2 ey_2 => ?_)
        obtain rfl : y_2 = nI (47 + (24 * ta.toNatClampNeg)) := ey_2.trans (nadd (rfl : (47 : Int32) = nI 47) (nmul (rfl : (24 : Int32) = nI 24) hta))
        refine lv_iload_n hx hb dX9_sumOf_22 rfl (lv_at hl 3 rfl) ?_
        refine lv_iadd hx hb dX9_sumOf_23 ?_
        refine ra_ld hx hb hK hP 1 0 rfl rfl (j := ((47 + (24 * ta.toNatClampNeg)) + k3_4)) (nadd (rfl : (nI (47 + (24 * ta.toNatClampNeg))) = nI (47 + (24 * ta.toNatClampNeg))) (rfl : (nI k3_4) = nI k3_4)) (by omega) (by omega) dX9_sumOf_24 ?_
        refine lv_iadd hx hb dX9_sumOf_25 ?_
        refine lv_topi (fun x_3 ex_3 => ?_)
        have hE := hE.trans (spLet_eq ex_3)
        refine lv_istore_n (lv' := [(2, .int x_3), (0, .ref q0), (1, .int ta), (3, .int (nI k3_4))]) hx hb dX9_sumOf_26 rfl hl (by decide) rfl (fun ls hl => ?_)
        refine lv_iinc (v := (nI (k3_4 + 1))) (lv' := [(3, .int (nI (k3_4 + 1))), (2, .int x_3), (0, .ref q0), (1, .int ta)]) hx hb dX9_sumOf_27 hl (k := 3) rfl (show _ from (congrArg (fun z => z + Int32.ofInt 1) (rfl)).trans (ninc _ 1)) (by decide) rfl (fun ls hl => ?_)
        refine lv_goto (tgt := 4) hx hb dX9_sumOf_30 (by decide) ?_
        exact ih4 x_3 (k3_4 + 1) (by omega) ls (lv_sub hl [2, 3, 1, 0] rfl) hE
  exact L4 25 (0 : Int32) 0 (by omega) ls (lv_sub hl [2, 3, 1, 0] rfl) hE
def m_valueAt (zs : Nat → Int32) (ta : Int32) (ro : Nat) (co : Nat) : Int64 :=
  (zs (((47 + (24 * ta.toNatClampNeg)) + (6 * ro)) + co)).toInt64
set_option maxHeartbeats 1000000 in
set_option maxRecDepth 100000 in
theorem c_X9_valueAt (l : Launch) (dC : Nat → ClassId) (dI : Nat → Nat → Nat) (cyI : ClassId) (q0 : Nat) (q1 : Nat) (q2 : Nat) (q3 : Nat) (q4 : Nat) (q5 : Nat) (q6 : Nat) (svc : Int32) (tl : Int32) (cde : Int32) (mm : Int32) (mr : Int32) (ati : Int32) (ors : Int32) (zs : Nat → Int32) (zv : Nat → Int32) (zt : Nat → Int32) (zp : Nat → Int32) (zm : Nat → Int32) (zk : Nat → Int32) (ta : Int32) (ro : Nat) (co : Nat) (hta : ta = nI ta.toNatClampNeg) (bta : ta.toNatClampNeg < 4) (hro : ro < 4) (hco : co < 6) : Met l yX9_valueAt wqX9_valueAt ({ frames := 0, cells := 0, slots := 0, locals := 0 } : Room) (va_Pc [.ref q0, .int ta, .int (nI ro), .int (nI co)] (pB (dC, dI) [(q0, .inr (9, [.ref q1, .ref q2, .int svc, .ref q3, .int tl, .int cde, .int mm, .int mr, .ref q4, .int ati, .int ors, .ref q5, .ref q6])), (q1, .inl (cyI, 246, .inl zs)), (q2, .inl (cyI, 984, .inl zv)), (q3, .inl (cyI, 80, .inl zt)), (q4, .inl (cyI, 5, .inl zp)), (q5, .inl (cyI, 40, .inl zm)), (q6, .inl (cyI, 40, .inl zk))] [(cyI, .int)] eM)) (vp_Sl (fun r => r = (m_valueAt zs ta ro co))) 0 0 aF := by
  refine Met.ofW (cc := cX9_valueAt) (maxL := 4) (ret := (some .long)) (by decide) rfl ?_
  intro p e s m args below meth c s₁ B hml hv
  obtain ⟨rfl, hP, hK, he⟩ := hv
  have hx := B.exec
  have hb := B.bytes
  have hr := B.returns
  have hts := atoms_spec (ws := wqX9_valueAt) B.pre
  have hown : s.vm.findClass RX9 = some m.cls := findClass_of_methodNamed B.named
  have hlocks := B.notSynchronized
  have w_0 := hts (Cond.fieldLink RX9 7 "CraneLimiterModel" "s" "[I") (List.mem_cons_of_mem _ b_93)
  have i_X9 : ∀ w ∈ u_ws RX9 TX9 13, w ∈ wqX9_valueAt := fun w h => List.mem_cons_of_mem _ (bX9 w h)
  have hS : va_S aF s.heap s.heap [] := va_S.rf
  have hP : va_P (dC, dI) vwCl [(q0, .inr (9, [.ref q1, .ref q2, .int svc, .ref q3, .int tl, .int cde, .int mm, .int mr, .ref q4, .int ati, .int ors, .ref q5, .ref q6])), (q1, .inl (cyI, 246, .inl zs)), (q2, .inl (cyI, 984, .inl zv)), (q3, .inl (cyI, 80, .inl zt)), (q4, .inl (cyI, 5, .inl zp)), (q5, .inl (cyI, 40, .inl zm)), (q6, .inl (cyI, 40, .inl zk))] s.heap := hP
  have hl := lv_entry ([.ref q0, .int ta, .int (nI ro), .int (nI co)] : List Value) (n := 4) (Nat.le_of_ble_eq_true rfl)
  rw [lg_entry_eq]
  generalize (lg_sl ([.ref q0, .int ta, .int (nI ro), .int (nI co)] : List Value) ++ List.replicate (4 - (lg_sl ([.ref q0, .int ta, .int (nI ro), .int (nI co)] : List Value)).length) Slot.unset).toArray = ls at hl ⊢
  have hl : lv_has ls 4 [(0, .ref q0), (1, .int ta), (2, .int (nI ro)), (3, .int (nI co))] := hl
  have hE : m_valueAt zs ta ro co = m_valueAt zs ta ro co := rfl
  refine lv_aload_n hx hb dX9_valueAt_0 rfl (lv_at hl 0 rfl) ?_
  refine va_get (D := (dC, dI)) (ci := 9) (v := .ref q1) (C := RX9) (T := TX9) (N := 13) hx hb hts i_X9 hown hK hP 0 rfl rfl 0 (by decide) w_0 (fun _ h9 => h9) rfl dX9_valueAt_1 ?_
  refine lv_bipush (v := 47) hx hb dX9_valueAt_4 (by decide) ?_
  refine lv_bipush (v := 24) hx hb dX9_valueAt_6 (by decide) ?_
  refine lv_iload_n hx hb dX9_valueAt_8 rfl (lv_at hl 1 rfl) ?_
  refine lv_imul hx hb dX9_valueAt_9 ?_
  refine lv_iadd hx hb dX9_valueAt_10 ?_
  refine lv_topi (fun y_1 ey_1 => ?_)
  obtain rfl : y_1 = nI (47 + (24 * ta.toNatClampNeg)) := ey_1.trans (nadd (rfl : (47 : Int32) = nI 47) (nmul (rfl : (24 : Int32) = nI 24) hta))
  refine lv_bipush (v := 6) hx hb dX9_valueAt_11 (by decide) ?_
  refine lv_iload_n hx hb dX9_valueAt_13 rfl (lv_at hl 2 rfl) ?_
  refine lv_imul hx hb dX9_valueAt_14 ?_
  refine lv_iadd hx hb dX9_valueAt_15 ?_
  refine lv_topi (fun y_2 ey_2 => ?_)
  obtain rfl : y_2 = nI ((47 + (24 * ta.toNatClampNeg)) + (6 * ro)) := ey_2.trans (nadd (rfl : (nI (47 + (24 * ta.toNatClampNeg))) = nI (47 + (24 * ta.toNatClampNeg))) (nmul (rfl : (6 : Int32) = nI 6) (rfl : (nI ro) = nI ro)))
  refine lv_iload_n hx hb dX9_valueAt_16 rfl (lv_at hl 3 rfl) ?_
  refine lv_iadd hx hb dX9_valueAt_17 ?_
  refine ra_ld hx hb hK hP 1 0 rfl rfl (j := (((47 + (24 * ta.toNatClampNeg)) + (6 * ro)) + co)) (nadd (rfl : (nI ((47 + (24 * ta.toNatClampNeg)) + (6 * ro))) = nI ((47 + (24 * ta.toNatClampNeg)) + (6 * ro))) (rfl : (nI co) = nI co)) (by omega) (by omega) dX9_valueAt_18 ?_
  refine lv_i2l hx hb dX9_valueAt_19 rfl ?_
  exact W.lret (v := (zs (((47 + (24 * ta.toNatClampNeg)) + (6 * ro)) + co)).toInt64) hx hb hr (fun t ht hW => ⟨_, rfl, hE.symm, ht⟩) (fun q h => by cases h) dX9_valueAt_20
def m_valueAt_p (zs : Nat → Int32) (ta : Int32) (ro : Int32) (co : Int32) : Int64 :=
  (zs (((47 + (24 * ta.toNatClampNeg)) + (6 * ro.toNatClampNeg)) + co.toNatClampNeg)).toInt64
set_option maxHeartbeats 1000000 in
set_option maxRecDepth 100000 in
theorem c_X9_valueAt_p (l : Launch) (dC : Nat → ClassId) (dI : Nat → Nat → Nat) (cyI : ClassId) (q0 : Nat) (q1 : Nat) (q2 : Nat) (q3 : Nat) (q4 : Nat) (q5 : Nat) (q6 : Nat) (svc : Int32) (tl : Int32) (cde : Int32) (mm : Int32) (mr : Int32) (ati : Int32) (ors : Int32) (zs : Nat → Int32) (zv : Nat → Int32) (zt : Nat → Int32) (zp : Nat → Int32) (zm : Nat → Int32) (zk : Nat → Int32) (ta : Int32) (ro : Int32) (co : Int32) (hta : ta = nI ta.toNatClampNeg) (bta : ta.toNatClampNeg < 4) (hro : ro = nI ro.toNatClampNeg) (bro : ro.toNatClampNeg < 4) (hco : co = nI co.toNatClampNeg) (bco : co.toNatClampNeg < 6) : Met l yX9_valueAt wqX9_valueAt ({ frames := 0, cells := 0, slots := 0, locals := 0 } : Room) (va_Pc [.ref q0, .int ta, .int ro, .int co] (pB (dC, dI) [(q0, .inr (9, [.ref q1, .ref q2, .int svc, .ref q3, .int tl, .int cde, .int mm, .int mr, .ref q4, .int ati, .int ors, .ref q5, .ref q6])), (q1, .inl (cyI, 246, .inl zs)), (q2, .inl (cyI, 984, .inl zv)), (q3, .inl (cyI, 80, .inl zt)), (q4, .inl (cyI, 5, .inl zp)), (q5, .inl (cyI, 40, .inl zm)), (q6, .inl (cyI, 40, .inl zk))] [(cyI, .int)] eM)) (vp_Sl (fun r => r = (m_valueAt_p zs ta ro co))) 0 0 aF := by
  refine Met.ofW (cc := cX9_valueAt) (maxL := 4) (ret := (some .long)) (by decide) rfl ?_
  intro p e s m args below meth c s₁ B hml hv
  obtain ⟨rfl, hP, hK, he⟩ := hv
  have hx := B.exec
  have hb := B.bytes
  have hr := B.returns
  have hts := atoms_spec (ws := wqX9_valueAt) B.pre
  have hown : s.vm.findClass RX9 = some m.cls := findClass_of_methodNamed B.named
  have hlocks := B.notSynchronized
  have w_0 := hts (Cond.fieldLink RX9 7 "CraneLimiterModel" "s" "[I") (List.mem_cons_of_mem _ b_93)
  have i_X9 : ∀ w ∈ u_ws RX9 TX9 13, w ∈ wqX9_valueAt := fun w h => List.mem_cons_of_mem _ (bX9 w h)
  have hS : va_S aF s.heap s.heap [] := va_S.rf
  have hP : va_P (dC, dI) vwCl [(q0, .inr (9, [.ref q1, .ref q2, .int svc, .ref q3, .int tl, .int cde, .int mm, .int mr, .ref q4, .int ati, .int ors, .ref q5, .ref q6])), (q1, .inl (cyI, 246, .inl zs)), (q2, .inl (cyI, 984, .inl zv)), (q3, .inl (cyI, 80, .inl zt)), (q4, .inl (cyI, 5, .inl zp)), (q5, .inl (cyI, 40, .inl zm)), (q6, .inl (cyI, 40, .inl zk))] s.heap := hP
  have hl := lv_entry ([.ref q0, .int ta, .int ro, .int co] : List Value) (n := 4) (Nat.le_of_ble_eq_true rfl)
  rw [lg_entry_eq]
  generalize (lg_sl ([.ref q0, .int ta, .int ro, .int co] : List Value) ++ List.replicate (4 - (lg_sl ([.ref q0, .int ta, .int ro, .int co] : List Value)).length) Slot.unset).toArray = ls at hl ⊢
  have hl : lv_has ls 4 [(0, .ref q0), (1, .int ta), (2, .int ro), (3, .int co)] := hl
  have hE : m_valueAt_p zs ta ro co = m_valueAt_p zs ta ro co := rfl
  refine lv_aload_n hx hb dX9_valueAt_0 rfl (lv_at hl 0 rfl) ?_
  refine va_get (D := (dC, dI)) (ci := 9) (v := .ref q1) (C := RX9) (T := TX9) (N := 13) hx hb hts i_X9 hown hK hP 0 rfl rfl 0 (by decide) w_0 (fun _ h9 => h9) rfl dX9_valueAt_1 ?_
  refine lv_bipush (v := 47) hx hb dX9_valueAt_4 (by decide) ?_
  refine lv_bipush (v := 24) hx hb dX9_valueAt_6 (by decide) ?_
  refine lv_iload_n hx hb dX9_valueAt_8 rfl (lv_at hl 1 rfl) ?_
  refine lv_imul hx hb dX9_valueAt_9 ?_
  refine lv_iadd hx hb dX9_valueAt_10 ?_
  refine lv_topi (fun y_1 ey_1 => ?_)
  obtain rfl : y_1 = nI (47 + (24 * ta.toNatClampNeg)) := ey_1.trans (nadd (rfl : (47 : Int32) = nI 47) (nmul (rfl : (24 : Int32) = nI 24) hta))
  refine lv_bipush (v := 6) hx hb dX9_valueAt_11 (by decide) ?_
  refine lv_iload_n hx hb dX9_valueAt_13 rfl (lv_at hl 2 rfl) ?_
  refine lv_imul hx hb dX9_valueAt_14 ?_
  refine lv_iadd hx hb dX9_valueAt_15 ?_
  refine lv_topi (fun y_2 ey_2 => ?_)
  obtain rfl : y_2 = nI ((47 + (24 * ta.toNatClampNeg)) + (6 * ro.toNatClampNeg)) := ey_2.trans (nadd (rfl : (nI (47 + (24 * ta.toNatClampNeg))) = nI (47 + (24 * ta.toNatClampNeg))) (nmul (rfl : (6 : Int32) = nI 6) hro))
  refine lv_iload_n hx hb dX9_valueAt_16 rfl (lv_at hl 3 rfl) ?_
  refine lv_iadd hx hb dX9_valueAt_17 ?_
  refine ra_ld hx hb hK hP 1 0 rfl rfl (j := (((47 + (24 * ta.toNatClampNeg)) + (6 * ro.toNatClampNeg)) + co.toNatClampNeg)) (nadd (rfl : (nI ((47 + (24 * ta.toNatClampNeg)) + (6 * ro.toNatClampNeg))) = nI ((47 + (24 * ta.toNatClampNeg)) + (6 * ro.toNatClampNeg))) hco) (by omega) (by omega) dX9_valueAt_18 ?_
  refine lv_i2l hx hb dX9_valueAt_19 rfl ?_
  exact W.lret (v := (zs (((47 + (24 * ta.toNatClampNeg)) + (6 * ro.toNatClampNeg)) + co.toNatClampNeg)).toInt64) hx hb hr (fun t ht hW => ⟨_, rfl, hE.symm, ht⟩) (fun q h => by cases h) dX9_valueAt_20
def m_violation_j125 (v1_4 : Int32) (k2_4 : Nat) (rec4 : Int32 → Nat → (Int32)) (t0_125 : Int32) : Int32 :=
  spLet ((v1_4 + t0_125)) (fun x_6 => rec4 x_6 (k2_4 + 1))
def m_violation_j78 (zs : Nat → Int32) (v1_4 : Int32) (k2_4 : Nat) (rec4 : Int32 → Nat → (Int32)) (t0_78 : Int32) : Int32 :=
  if t0_78 = 0 then (m_violation_j125 v1_4 k2_4 rec4 (0 : Int32)) else (spLet (m_radius zs) (fun r_7 => spLet (m_greater (0 : Int32) (r_7 - (zs ((19 + (4 * k2_4)) + 2)))) (fun r_8 => spLet (m_height zs) (fun r_9 => spLet (m_greater (0 : Int32) (r_9 - (zs ((19 + (4 * k2_4)) + 3)))) (fun r_10 => m_violation_j125 v1_4 k2_4 rec4 (r_8 + r_10))))))
def m_violation_b4 (zs : Nat → Int32) (rec4 : Int32 → Nat → (Int32)) : Int32 → Nat → (Int32) :=
  fun v1_4 k2_4 => if (zs 18).toNatClampNeg ≤ k2_4 then v1_4 else (spLet (((((zs ((19 + (4 * k2_4)) + 1)) - (zs (19 + (4 * k2_4)))) + (3600 : Int32)) - (((zs ((19 + (4 * k2_4)) + 1)) - (zs (19 + (4 * k2_4)))) + (3600 : Int32)) / (3600 : Int32) * (3600 : Int32))) (fun x_3 => if x_3 < ((((zs 2) - (zs (19 + (4 * k2_4)))) + (3600 : Int32)) - (((zs 2) - (zs (19 + (4 * k2_4)))) + (3600 : Int32)) / (3600 : Int32) * (3600 : Int32)) then (m_violation_j78 zs v1_4 k2_4 rec4 (0 : Int32)) else (m_violation_j78 zs v1_4 k2_4 rec4 (1 : Int32))))
def m_violation (zs : Nat → Int32) : Int32 :=
  spIter (fun _ _ => default) (m_violation_b4 zs) 7 (0 : Int32) 0
set_option maxHeartbeats 1000000 in
set_option maxRecDepth 100000 in
theorem c_X9_violation (l : Launch) (dC : Nat → ClassId) (dI : Nat → Nat → Nat) (cyI : ClassId) (q0 : Nat) (q1 : Nat) (q2 : Nat) (q3 : Nat) (q4 : Nat) (q5 : Nat) (q6 : Nat) (svc : Int32) (tl : Int32) (cde : Int32) (mm : Int32) (mr : Int32) (ati : Int32) (ors : Int32) (zs : Nat → Int32) (zv : Nat → Int32) (zt : Nat → Int32) (zp : Nat → Int32) (zm : Nat → Int32) (zk : Nat → Int32) (hz : zs 18 = nI (zs 18).toNatClampNeg) (hz6 : (zs 18).toNatClampNeg ≤ 6) : Met l yX9_violation wqX9_violation ({ frames := 4, cells := 0, slots := 0, locals := 83 } : Room) (va_Pc [.ref q0] (pB (dC, dI) [(q0, .inr (9, [.ref q1, .ref q2, .int svc, .ref q3, .int tl, .int cde, .int mm, .int mr, .ref q4, .int ati, .int ors, .ref q5, .ref q6])), (q1, .inl (cyI, 246, .inl zs)), (q2, .inl (cyI, 984, .inl zv)), (q3, .inl (cyI, 80, .inl zt)), (q4, .inl (cyI, 5, .inl zp)), (q5, .inl (cyI, 40, .inl zm)), (q6, .inl (cyI, 40, .inl zk))] [(cyI, .int)] eM)) (vp_Si (fun r => r = (m_violation zs))) 0 0 aF := by
  refine Met.ofW (cc := cX9_violation) (maxL := 6) (ret := (some .int)) (by decide) rfl ?_
  intro p e s m args below meth c s₁ B hml hv
  obtain ⟨rfl, hP, hK, he⟩ := hv
  have hx := B.exec
  have hb := B.bytes
  have hr := B.returns
  have hts := atoms_spec (ws := wqX9_violation) B.pre
  have hown : s.vm.findClass RX9 = some m.cls := findClass_of_methodNamed B.named
  have hlocks := B.notSynchronized
  have w_0 := hts (Cond.fieldLink RX9 7 "CraneLimiterModel" "s" "[I") (List.mem_cons_of_mem _ b_93)
  have i_X9 : ∀ w ∈ u_ws RX9 TX9 13, w ∈ wqX9_violation := fun w h => List.mem_cons_of_mem _ (bX9 w h)
  have hS : va_S aF s.heap s.heap [] := va_S.rf
  have hP : va_P (dC, dI) vwCl [(q0, .inr (9, [.ref q1, .ref q2, .int svc, .ref q3, .int tl, .int cde, .int mm, .int mr, .ref q4, .int ati, .int ors, .ref q5, .ref q6])), (q1, .inl (cyI, 246, .inl zs)), (q2, .inl (cyI, 984, .inl zv)), (q3, .inl (cyI, 80, .inl zt)), (q4, .inl (cyI, 5, .inl zp)), (q5, .inl (cyI, 40, .inl zm)), (q6, .inl (cyI, 40, .inl zk))] s.heap := hP
  have hl := lv_entry ([.ref q0] : List Value) (n := 6) (Nat.le_of_ble_eq_true rfl)
  rw [lg_entry_eq]
  generalize (lg_sl ([.ref q0] : List Value) ++ List.replicate (6 - (lg_sl ([.ref q0] : List Value)).length) Slot.unset).toArray = ls at hl ⊢
  have hl : lv_has ls 6 [(0, .ref q0)] := hl
  have hE : m_violation zs = m_violation zs := rfl
  refine lv_iconst (v := 0) hx hb dX9_violation_0 (by decide) ?_
  refine lv_istore_n (lv' := [(1, .int (0 : Int32)), (0, .ref q0)]) hx hb dX9_violation_1 rfl hl (by decide) rfl (fun ls hl => ?_)
  refine lv_iconst (v := 0) hx hb dX9_violation_2 (by decide) ?_
  refine lv_istore_n (lv' := [(2, .int (0 : Int32)), (1, .int (0 : Int32)), (0, .ref q0)]) hx hb dX9_violation_3 rfl hl (by decide) rfl (fun ls hl => ?_)
  have L4 : ∀ (n4 : Nat) (v1_4 : Int32) (k2_4 : Nat) (hi : k2_4 ≤ 6 ∧ 6 < k2_4 + n4) (ls : Array Slot) (hl : lv_has ls 6 [(0, .ref q0), (1, .int v1_4), (2, .int (nI k2_4))]) (hE : (m_violation zs) = spIter (fun _ _ => default) (m_violation_b4 zs) n4 v1_4 k2_4), W p l e (headSpec wqX9_violation ({ frames := 4, cells := 0, slots := 0, locals := 83 } : Room)).room s m ([.ref q0] : List Value).toArray below meth c s.heap [] 0 0 (MQ below (vp_Si (fun r => r = (m_violation zs))) ([.ref q0] : List Value).toArray s 0 0 aF) (F0 m 4 ls []) := by
    intro n4
    induction n4 with
    | zero =>
      intro v1_4 k2_4 hi ls hl hE
      exact absurd hi (by omega)
    | succ n4 ih4 =>
      intro v1_4 k2_4 hi ls hl hE
      have hE : (m_violation zs) = m_violation_b4 zs (spIter (fun _ _ => default) (m_violation_b4 zs) n4) v1_4 k2_4 := hE
      refine lv_iload_n hx hb dX9_violation_4 rfl (lv_at hl 2 rfl) ?_
      refine lv_aload_n hx hb dX9_violation_5 rfl (lv_at hl 0 rfl) ?_
      refine va_get (D := (dC, dI)) (ci := 9) (v := .ref q1) (C := RX9) (T := TX9) (N := 13) hx hb hts i_X9 hown hK hP 0 rfl rfl 0 (by decide) w_0 (fun _ h9 => h9) rfl dX9_violation_6 ?_
      refine lv_bipush (v := 18) hx hb dX9_violation_9 (by decide) ?_
      refine ra_ld hx hb hK hP 1 0 rfl rfl (j := 18) (rfl : (18 : Int32) = nI 18) (by omega) (by omega) dX9_violation_11 ?_
      refine lv_icmp_ge (tgt := 133) hx hb dX9_violation_12 (by decide) (fun c_1 => ?_) (fun c_1 => ?_)
      ·
        have c_1 : (zs 18).toNatClampNeg ≤ k2_4 := by
          have h1 : ((nI k2_4)) = nI k2_4 := rfl
          have h2 : ((zs 18)) = nI ((zs 18).toNatClampNeg) := hz
          have h3 : (nI ((zs 18).toNatClampNeg) ≤ nI k2_4) := by first | exact c_1 | (rw [← h1, ← h2]; exact c_1)
          exact (nI_leI (by omega) (by omega)).mp h3
        have hE := hE.trans (if_pos c_1)
        refine lv_iload_n hx hb dX9_violation_133 rfl (lv_at hl 1 rfl) ?_
        exact W.iret (v := v1_4) hx hb hr (fun t ht hW => ⟨_, rfl, hE.symm, ht⟩) (fun q h => by cases h) dX9_violation_134
      ·
        have c_1 : ¬ (zs 18).toNatClampNeg ≤ k2_4 := by
          have h1 : ((nI k2_4)) = nI k2_4 := rfl
          have h2 : ((zs 18)) = nI ((zs 18).toNatClampNeg) := hz
          have h3 : ¬ (nI ((zs 18).toNatClampNeg) ≤ nI k2_4) := by first | exact c_1 | (rw [← h1, ← h2]; exact c_1)
          exact fun h => h3 ((nI_leI (by omega) (by omega)).mpr h)
        have hE := hE.trans (if_neg c_1)
        refine lv_bipush (v := 19) hx hb dX9_violation_15 (by decide) ?_
        refine lv_iconst (v := 4) hx hb dX9_violation_17 (by decide) ?_
        refine lv_iload_n hx hb dX9_violation_18 rfl (lv_at hl 2 rfl) ?_
        refine lv_imul hx hb dX9_violation_19 ?_
        refine lv_iadd hx hb dX9_violation_20 ?_
        refine lv_topi (fun y_2 ey_2 => ?_)
        obtain rfl : y_2 = nI (19 + (4 * k2_4)) := ey_2.trans (nadd (rfl : (19 : Int32) = nI 19) (nmul (rfl : (4 : Int32) = nI 4) (rfl : (nI k2_4) = nI k2_4)))
        refine lv_istore_n (lv' := [(3, .int (nI (19 + (4 * k2_4)))), (0, .ref q0), (1, .int v1_4), (2, .int (nI k2_4))]) hx hb dX9_violation_21 rfl hl (by decide) rfl (fun ls hl => ?_)
        refine lv_aload_n hx hb dX9_violation_22 rfl (lv_at hl 1 rfl) ?_
        refine va_get (D := (dC, dI)) (ci := 9) (v := .ref q1) (C := RX9) (T := TX9) (N := 13) hx hb hts i_X9 hown hK hP 0 rfl rfl 0 (by decide) w_0 (fun _ h9 => h9) rfl dX9_violation_23 ?_
        refine lv_iload_n hx hb dX9_violation_26 rfl (lv_at hl 0 rfl) ?_
        refine lv_iconst (v := 1) hx hb dX9_violation_27 (by decide) ?_
        refine lv_iadd hx hb dX9_violation_28 ?_
        refine ra_ld hx hb hK hP 1 0 rfl rfl (j := ((19 + (4 * k2_4)) + 1)) (nadd (rfl : (nI (19 + (4 * k2_4))) = nI (19 + (4 * k2_4))) (rfl : (1 : Int32) = nI 1)) (by omega) (by omega) dX9_violation_29 ?_
        refine lv_aload_n hx hb dX9_violation_30 rfl (lv_at hl 1 rfl) ?_
        refine va_get (D := (dC, dI)) (ci := 9) (v := .ref q1) (C := RX9) (T := TX9) (N := 13) hx hb hts i_X9 hown hK hP 0 rfl rfl 0 (by decide) w_0 (fun _ h9 => h9) rfl dX9_violation_31 ?_
        refine lv_iload_n hx hb dX9_violation_34 rfl (lv_at hl 0 rfl) ?_
        refine ra_ld hx hb hK hP 1 0 rfl rfl (j := (19 + (4 * k2_4))) (rfl : (nI (19 + (4 * k2_4))) = nI (19 + (4 * k2_4))) (by omega) (by omega) dX9_violation_35 ?_
        refine lv_isub hx hb dX9_violation_36 ?_
        refine lv_sipush (v := 3600) hx hb dX9_violation_37 (by decide) ?_
        refine lv_iadd hx hb dX9_violation_40 ?_
        refine lv_sipush (v := 3600) hx hb dX9_violation_41 (by decide) ?_
        refine lv_irem hx hb dX9_violation_44 (by decide) ?_
        refine lv_topi (fun x_3 ex_3 => ?_)
        have hE := hE.trans (spLet_eq ex_3)
        refine lv_istore (lv' := [(4, .int x_3), (3, .int (nI (19 + (4 * k2_4)))), (0, .ref q0), (1, .int v1_4), (2, .int (nI k2_4))]) hx hb dX9_violation_45 hl (by decide) rfl (fun ls hl => ?_)
        refine lv_aload_n hx hb dX9_violation_47 rfl (lv_at hl 2 rfl) ?_
        refine va_get (D := (dC, dI)) (ci := 9) (v := .ref q1) (C := RX9) (T := TX9) (N := 13) hx hb hts i_X9 hown hK hP 0 rfl rfl 0 (by decide) w_0 (fun _ h9 => h9) rfl dX9_violation_48 ?_
        refine lv_iconst (v := 2) hx hb dX9_violation_51 (by decide) ?_
        refine ra_ld hx hb hK hP 1 0 rfl rfl (j := 2) (rfl : (2 : Int32) = nI 2) (by omega) (by omega) dX9_violation_52 ?_
        refine lv_aload_n hx hb dX9_violation_53 rfl (lv_at hl 2 rfl) ?_
        refine va_get (D := (dC, dI)) (ci := 9) (v := .ref q1) (C := RX9) (T := TX9) (N := 13) hx hb hts i_X9 hown hK hP 0 rfl rfl 0 (by decide) w_0 (fun _ h9 => h9) rfl dX9_violation_54 ?_
        refine lv_iload_n hx hb dX9_violation_57 rfl (lv_at hl 1 rfl) ?_
        refine ra_ld hx hb hK hP 1 0 rfl rfl (j := (19 + (4 * k2_4))) (rfl : (nI (19 + (4 * k2_4))) = nI (19 + (4 * k2_4))) (by omega) (by omega) dX9_violation_58 ?_
        refine lv_isub hx hb dX9_violation_59 ?_
        refine lv_sipush (v := 3600) hx hb dX9_violation_60 (by decide) ?_
        refine lv_iadd hx hb dX9_violation_63 ?_
        refine lv_sipush (v := 3600) hx hb dX9_violation_64 (by decide) ?_
        refine lv_irem hx hb dX9_violation_67 (by decide) ?_
        refine lv_iload hx hb dX9_violation_68 (lv_at hl 0 rfl) ?_
        have J78 : ∀ (t0_78 : Int32) (ls : Array Slot) (hl : lv_has ls 6 [(0, .ref q0), (1, .int v1_4), (2, .int (nI k2_4)), (3, .int (nI (19 + (4 * k2_4))))]) (hE : (m_violation zs) = m_violation_j78 zs v1_4 k2_4 (spIter (fun _ _ => default) (m_violation_b4 zs) n4) t0_78), W p l e (headSpec wqX9_violation ({ frames := 4, cells := 0, slots := 0, locals := 83 } : Room)).room s m ([.ref q0] : List Value).toArray below meth c s.heap [] 0 0 (MQ below (vp_Si (fun r => r = (m_violation zs))) ([.ref q0] : List Value).toArray s 0 0 aF) (F0 m 78 ls [.int t0_78]) := by
          intro t0_78 ls hl hE
          refine lv_istore (lv' := [(5, .int t0_78), (0, .ref q0), (1, .int v1_4), (2, .int (nI k2_4)), (3, .int (nI (19 + (4 * k2_4))))]) hx hb dX9_violation_78 hl (by decide) rfl (fun ls hl => ?_)
          refine lv_iload_n hx hb dX9_violation_80 rfl (lv_at hl 2 rfl) ?_
          refine lv_iload hx hb dX9_violation_81 (lv_at hl 0 rfl) ?_
          have J125 : ∀ (t0_125 : Int32) (ls : Array Slot) (hl : lv_has ls 6 [(0, .ref q0), (2, .int (nI k2_4))]) (hE : (m_violation zs) = m_violation_j125 v1_4 k2_4 (spIter (fun _ _ => default) (m_violation_b4 zs) n4) t0_125), W p l e (headSpec wqX9_violation ({ frames := 4, cells := 0, slots := 0, locals := 83 } : Room)).room s m ([.ref q0] : List Value).toArray below meth c s.heap [] 0 0 (MQ below (vp_Si (fun r => r = (m_violation zs))) ([.ref q0] : List Value).toArray s 0 0 aF) (F0 m 125 ls [.int t0_125, .int v1_4]) := by
            intro t0_125 ls hl hE
            refine lv_iadd hx hb dX9_violation_125 ?_
            refine lv_topi (fun x_6 ex_6 => ?_)
            have hE := hE.trans (spLet_eq ex_6)
            refine lv_istore_n (lv' := [(1, .int x_6), (0, .ref q0), (2, .int (nI k2_4))]) hx hb dX9_violation_126 rfl hl (by decide) rfl (fun ls hl => ?_)
            refine lv_iinc (v := (nI (k2_4 + 1))) (lv' := [(2, .int (nI (k2_4 + 1))), (1, .int x_6), (0, .ref q0)]) hx hb dX9_violation_127 hl (k := 2) rfl (show _ from (congrArg (fun z => z + Int32.ofInt 1) (rfl)).trans (ninc _ 1)) (by decide) rfl (fun ls hl => ?_)
            refine lv_goto (tgt := 4) hx hb dX9_violation_130 (by decide) ?_
            exact ih4 x_6 (k2_4 + 1) (by omega) ls (lv_sub hl [2, 1, 0] rfl) hE
          refine lv_if_eq (tgt := 124) hx hb dX9_violation_83 (by decide) (fun c_5 => ?_) (fun c_5 => ?_)
          ·
            have hE := hE.trans (if_pos c_5)
            refine lv_iconst (v := 0) hx hb dX9_violation_124 (by decide) ?_
            exact J125 (0 : Int32) ls (lv_sub hl [1, 3] rfl) hE
          ·
            have hE := hE.trans (if_neg c_5)
            refine lv_iconst (v := 0) hx hb dX9_violation_86 (by decide) ?_
            refine lv_aload_n hx hb dX9_violation_87 rfl (lv_at hl 1 rfl) ?_
            refine vp_callSi (W.runV (As := []) (rest := [.int (0 : Int32), .int v1_4]) ⟨hx, hb, hml, hown, hts⟩ (c_X9_radius l dC dI cyI q0 q1 q2 q3 q4 q5 q6 svc tl cde mm mr ati ors zs zv zt zp zm zk) (cwV 0 hts (gBV b_380 b_381 b_382 b_5 b_383) rfl rfl rfl (by decide +kernel) ⟨Nat.le_of_ble_eq_true rfl, Nat.le_of_ble_eq_true rfl⟩) (pre_v eM_ok he hS hP hK 0 rfl rfl rfl) rfl rfl hl.1 rfl (lv_room (Nat.le_of_ble_eq_true rfl)) dX9_violation_88 ⟨Nat.zero_le _, Nat.zero_le _⟩) (fun r_7 hr_7 => ?_)
            have hE := hE.trans (spLet_eq hr_7)
            refine lv_aload_n hx hb dX9_violation_91 rfl (lv_at hl 1 rfl) ?_
            refine va_get (D := (dC, dI)) (ci := 9) (v := .ref q1) (C := RX9) (T := TX9) (N := 13) hx hb hts i_X9 hown hK hP 0 rfl rfl 0 (by decide) w_0 (fun _ h9 => h9) rfl dX9_violation_92 ?_
            refine lv_iload_n hx hb dX9_violation_95 rfl (lv_at hl 4 rfl) ?_
            refine lv_iconst (v := 2) hx hb dX9_violation_96 (by decide) ?_
            refine lv_iadd hx hb dX9_violation_97 ?_
            refine ra_ld hx hb hK hP 1 0 rfl rfl (j := ((19 + (4 * k2_4)) + 2)) (nadd (rfl : (nI (19 + (4 * k2_4))) = nI (19 + (4 * k2_4))) (rfl : (2 : Int32) = nI 2)) (by omega) (by omega) dX9_violation_98 ?_
            refine lv_isub hx hb dX9_violation_99 ?_
            refine vp_callSi (W.runS (As := [.int (0 : Int32), .int (r_7 - (zs ((19 + (4 * k2_4)) + 2)))]) (rest := [.int v1_4]) ⟨hx, hb, hml, hown, hts⟩ (c_X9_greater l dC dI cyI (0 : Int32) (r_7 - (zs ((19 + (4 * k2_4)) + 2)))) (va_cwS 2 hts (gBS b_393 b_394 b_5 b_395) rfl rfl rfl (by decide +kernel) ⟨Nat.le_of_ble_eq_true rfl, Nat.le_of_ble_eq_true rfl⟩) (pre_s eM_ok he hS (hP.sub (ws' := []) [] rfl) (hK.sub (tys' := []) [] rfl)) rfl rfl hl.1 rfl (lv_room (Nat.le_of_ble_eq_true rfl)) dX9_violation_100 ⟨Nat.zero_le _, Nat.zero_le _⟩) (fun r_8 hr_8 => ?_)
            have hE := hE.trans (spLet_eq hr_8)
            refine lv_iconst (v := 0) hx hb dX9_violation_103 (by decide) ?_
            refine lv_aload_n hx hb dX9_violation_104 rfl (lv_at hl 1 rfl) ?_
            refine vp_callSi (W.runV (As := []) (rest := [.int (0 : Int32), .int r_8, .int v1_4]) ⟨hx, hb, hml, hown, hts⟩ (c_X9_height l dC dI cyI q0 q1 q2 q3 q4 q5 q6 svc tl cde mm mr ati ors zs zv zt zp zm zk) (cwV 0 hts (gBV b_396 b_397 b_398 b_5 b_399) rfl rfl rfl (by decide +kernel) ⟨Nat.le_of_ble_eq_true rfl, Nat.le_of_ble_eq_true rfl⟩) (pre_v eM_ok he hS hP hK 0 rfl rfl rfl) rfl rfl hl.1 rfl (lv_room (Nat.le_of_ble_eq_true rfl)) dX9_violation_105 ⟨Nat.zero_le _, Nat.zero_le _⟩) (fun r_9 hr_9 => ?_)
            have hE := hE.trans (spLet_eq hr_9)
            refine lv_aload_n hx hb dX9_violation_108 rfl (lv_at hl 1 rfl) ?_
            refine va_get (D := (dC, dI)) (ci := 9) (v := .ref q1) (C := RX9) (T := TX9) (N := 13) hx hb hts i_X9 hown hK hP 0 rfl rfl 0 (by decide) w_0 (fun _ h9 => h9) rfl dX9_violation_109 ?_
            refine lv_iload_n hx hb dX9_violation_112 rfl (lv_at hl 4 rfl) ?_
            refine lv_iconst (v := 3) hx hb dX9_violation_113 (by decide) ?_
            refine lv_iadd hx hb dX9_violation_114 ?_
            refine ra_ld hx hb hK hP 1 0 rfl rfl (j := ((19 + (4 * k2_4)) + 3)) (nadd (rfl : (nI (19 + (4 * k2_4))) = nI (19 + (4 * k2_4))) (rfl : (3 : Int32) = nI 3)) (by omega) (by omega) dX9_violation_115 ?_
            refine lv_isub hx hb dX9_violation_116 ?_
            refine vp_callSi (W.runS (As := [.int (0 : Int32), .int (r_9 - (zs ((19 + (4 * k2_4)) + 3)))]) (rest := [.int r_8, .int v1_4]) ⟨hx, hb, hml, hown, hts⟩ (c_X9_greater l dC dI cyI (0 : Int32) (r_9 - (zs ((19 + (4 * k2_4)) + 3)))) (va_cwS 2 hts (gBS b_393 b_394 b_5 b_395) rfl rfl rfl (by decide +kernel) ⟨Nat.le_of_ble_eq_true rfl, Nat.le_of_ble_eq_true rfl⟩) (pre_s eM_ok he hS (hP.sub (ws' := []) [] rfl) (hK.sub (tys' := []) [] rfl)) rfl rfl hl.1 rfl (lv_room (Nat.le_of_ble_eq_true rfl)) dX9_violation_117 ⟨Nat.zero_le _, Nat.zero_le _⟩) (fun r_10 hr_10 => ?_)
            have hE := hE.trans (spLet_eq hr_10)
            refine lv_iadd hx hb dX9_violation_120 ?_
            refine lv_goto (tgt := 125) hx hb dX9_violation_121 (by decide) ?_
            exact J125 (r_8 + r_10) ls (lv_sub hl [1, 3] rfl) hE
        refine lv_icmp_gt (tgt := 77) hx hb dX9_violation_70 (by decide) (fun c_4 => ?_) (fun c_4 => ?_)
        ·
          have hE := hE.trans (if_pos c_4)
          refine lv_iconst (v := 0) hx hb dX9_violation_77 (by decide) ?_
          exact J78 (0 : Int32) ls (lv_sub hl [2, 3, 4, 1] rfl) hE
        ·
          have hE := hE.trans (if_neg c_4)
          refine lv_iconst (v := 1) hx hb dX9_violation_73 (by decide) ?_
          refine lv_goto (tgt := 78) hx hb dX9_violation_74 (by decide) ?_
          exact J78 (1 : Int32) ls (lv_sub hl [2, 3, 4, 1] rfl) hE
  exact L4 7 (0 : Int32) 0 (by omega) ls (lv_sub hl [2, 1, 0] rfl) hE
def m_capacityOf_j71 (zs : Nat → Int32) (ta : Int32) (le : Int32) (r_2 : Int32) (k5_21 : Nat) (k6_47 : Nat) : Int32 :=
  spLet (m_columnRadius (nI (k6_47 + 1))) (fun r_6 => spLet ((r_6 - r_2).toInt64) (fun x_7 => spLet (m_columnRadius (nI k6_47)) (fun r_8 => spLet ((r_2 - r_8).toInt64) (fun x_9 => spLet (m_valueAt zs ta (k5_21) (k6_47)) (fun r_10 => spLet (m_valueAt zs ta (k5_21) (k6_47 + 1)) (fun r_12 => spLet (((r_10 * x_7) + (r_12 * x_9))) (fun x_13 => spLet (m_valueAt zs ta (k5_21 + 1) (k6_47)) (fun r_15 => spLet (m_valueAt zs ta (k5_21 + 1) (k6_47 + 1)) (fun r_18 => spLet (((r_15 * x_7) + (r_18 * x_9))) (fun x_19 => spLet (m_columnRadius (nI (k6_47 + 1))) (fun r_21 => spLet (m_columnRadius (nI k6_47)) (fun r_22 => spLet (m_rowLength (nI (k5_21 + 1))) (fun r_24 => spLet (m_rowLength (nI k5_21)) (fun r_25 => spLet ((((r_21 - r_22).toInt64) * ((r_24 - r_25).toInt64))) (fun x_26 => spLet (m_rowLength (nI (k5_21 + 1))) (fun r_28 => spLet (m_rowLength (nI k5_21)) (fun r_29 => (((x_13 * ((r_28 - le).toInt64)) + (x_19 * ((le - r_29).toInt64))) / x_26).toInt32)))))))))))))))))
def m_capacityOf_b47 (zs : Nat → Int32) (ta : Int32) (le : Int32) (r_2 : Int32) (k5_21 : Nat) (rec47 : Nat → (Int32)) : Nat → (Int32) :=
  fun k6_47 => if 4 ≤ k6_47 then (m_capacityOf_j71 zs ta le r_2 k5_21 k6_47) else (spLet (m_columnRadius (nI (k6_47 + 1))) (fun r_31 => if r_2 ≤ r_31 then (m_capacityOf_j71 zs ta le r_2 k5_21 k6_47) else (rec47 (k6_47 + 1))))
def m_capacityOf_j44 (zs : Nat → Int32) (ta : Int32) (le : Int32) (r_2 : Int32) (k5_21 : Nat) : Int32 :=
  spIter (fun _ => default) (m_capacityOf_b47 zs ta le r_2 k5_21) 5 0
def m_capacityOf_b21 (zs : Nat → Int32) (ta : Int32) (le : Int32) (r_2 : Int32) (rec21 : Nat → (Int32)) : Nat → (Int32) :=
  fun k5_21 => if 2 ≤ k5_21 then (m_capacityOf_j44 zs ta le r_2 k5_21) else (spLet (m_rowLength (nI (k5_21 + 1))) (fun r_34 => if le ≤ r_34 then (m_capacityOf_j44 zs ta le r_2 k5_21) else (rec21 (k5_21 + 1))))
def m_capacityOf (zs : Nat → Int32) (ta : Int32) (le : Int32) (ra : Int32) : Int32 :=
  if ra ≤ (3000 : Int32) then (spLet (m_greater (300 : Int32) ra) (fun r_2 => spIter (fun _ => default) (m_capacityOf_b21 zs ta le r_2) 3 0)) else (0 : Int32)
set_option maxHeartbeats 1000000 in
set_option maxRecDepth 100000 in
theorem c_X9_capacityOf (l : Launch) (dC : Nat → ClassId) (dI : Nat → Nat → Nat) (cyI : ClassId) (q0 : Nat) (q1 : Nat) (q2 : Nat) (q3 : Nat) (q4 : Nat) (q5 : Nat) (q6 : Nat) (svc : Int32) (tl : Int32) (cde : Int32) (mm : Int32) (mr : Int32) (ati : Int32) (ors : Int32) (zs : Nat → Int32) (zv : Nat → Int32) (zt : Nat → Int32) (zp : Nat → Int32) (zm : Nat → Int32) (zk : Nat → Int32) (ta : Int32) (le : Int32) (ra : Int32) (hta : ta = nI ta.toNatClampNeg) (bta : ta.toNatClampNeg < 4) : Met l yX9_capacityOf wqX9_capacityOf ({ frames := 1, cells := 0, slots := 0, locals := 23 } : Room) (va_Pc [.ref q0, .int ta, .int le, .int ra] (pB (dC, dI) [(q0, .inr (9, [.ref q1, .ref q2, .int svc, .ref q3, .int tl, .int cde, .int mm, .int mr, .ref q4, .int ati, .int ors, .ref q5, .ref q6])), (q1, .inl (cyI, 246, .inl zs)), (q2, .inl (cyI, 984, .inl zv)), (q3, .inl (cyI, 80, .inl zt)), (q4, .inl (cyI, 5, .inl zp)), (q5, .inl (cyI, 40, .inl zm)), (q6, .inl (cyI, 40, .inl zk))] [(cyI, .int)] eM)) (vp_Si (fun r => r = (m_capacityOf zs ta le ra))) 0 0 aF := by
  refine Met.ofW (cc := cX9_capacityOf) (maxL := 17) (ret := (some .int)) (by decide) rfl ?_
  intro p e s m args below meth c s₁ B hml hv
  obtain ⟨rfl, hP, hK, he⟩ := hv
  have hx := B.exec
  have hb := B.bytes
  have hr := B.returns
  have hts := atoms_spec (ws := wqX9_capacityOf) B.pre
  have hown : s.vm.findClass RX9 = some m.cls := findClass_of_methodNamed B.named
  have hlocks := B.notSynchronized
  have hS : va_S aF s.heap s.heap [] := va_S.rf
  have hP : va_P (dC, dI) vwCl [(q0, .inr (9, [.ref q1, .ref q2, .int svc, .ref q3, .int tl, .int cde, .int mm, .int mr, .ref q4, .int ati, .int ors, .ref q5, .ref q6])), (q1, .inl (cyI, 246, .inl zs)), (q2, .inl (cyI, 984, .inl zv)), (q3, .inl (cyI, 80, .inl zt)), (q4, .inl (cyI, 5, .inl zp)), (q5, .inl (cyI, 40, .inl zm)), (q6, .inl (cyI, 40, .inl zk))] s.heap := hP
  have hl := lv_entry ([.ref q0, .int ta, .int le, .int ra] : List Value) (n := 17) (Nat.le_of_ble_eq_true rfl)
  rw [lg_entry_eq]
  generalize (lg_sl ([.ref q0, .int ta, .int le, .int ra] : List Value) ++ List.replicate (17 - (lg_sl ([.ref q0, .int ta, .int le, .int ra] : List Value)).length) Slot.unset).toArray = ls at hl ⊢
  have hl : lv_has ls 17 [(0, .ref q0), (1, .int ta), (2, .int le), (3, .int ra)] := hl
  have hE : m_capacityOf zs ta le ra = m_capacityOf zs ta le ra := rfl
  refine lv_iload_n hx hb dX9_capacityOf_0 rfl (lv_at hl 3 rfl) ?_
  refine lv_sipush (v := 3000) hx hb dX9_capacityOf_1 (by decide) ?_
  refine lv_icmp_le (tgt := 9) hx hb dX9_capacityOf_4 (by decide) (fun c_1 => ?_) (fun c_1 => ?_)
  ·
    have hE := hE.trans (if_pos c_1)
    refine lv_sipush (v := 300) hx hb dX9_capacityOf_9 (by decide) ?_
    refine lv_iload_n hx hb dX9_capacityOf_12 rfl (lv_at hl 3 rfl) ?_
    refine vp_callSi (W.runS (As := [.int (300 : Int32), .int ra]) (rest := []) ⟨hx, hb, hml, hown, hts⟩ (c_X9_greater l dC dI cyI (300 : Int32) ra) (va_cwS 2 hts (gBS b_393 b_394 b_5 b_395) rfl rfl rfl (by decide +kernel) ⟨Nat.le_of_ble_eq_true rfl, Nat.le_of_ble_eq_true rfl⟩) (pre_s eM_ok he hS (hP.sub (ws' := []) [] rfl) (hK.sub (tys' := []) [] rfl)) rfl rfl hl.1 rfl (lv_room (Nat.le_of_ble_eq_true rfl)) dX9_capacityOf_13 ⟨Nat.zero_le _, Nat.zero_le _⟩) (fun r_2 hr_2 => ?_)
    have hE := hE.trans (spLet_eq hr_2)
    refine lv_istore (lv' := [(4, .int r_2), (0, .ref q0), (1, .int ta), (2, .int le), (3, .int ra)]) hx hb dX9_capacityOf_16 hl (by decide) rfl (fun ls hl => ?_)
    refine lv_iconst (v := 0) hx hb dX9_capacityOf_18 (by decide) ?_
    refine lv_istore (lv' := [(5, .int (0 : Int32)), (4, .int r_2), (0, .ref q0), (1, .int ta), (2, .int le), (3, .int ra)]) hx hb dX9_capacityOf_19 hl (by decide) rfl (fun ls hl => ?_)
    have L21 : ∀ (n21 : Nat) (k5_21 : Nat) (hi : k5_21 ≤ 2 ∧ 2 < k5_21 + n21) (ls : Array Slot) (hl : lv_has ls 17 [(0, .ref q0), (1, .int ta), (2, .int le), (4, .int r_2), (5, .int (nI k5_21))]) (hE : (m_capacityOf zs ta le ra) = spIter (fun _ => default) (m_capacityOf_b21 zs ta le r_2) n21 k5_21), W p l e (headSpec wqX9_capacityOf ({ frames := 1, cells := 0, slots := 0, locals := 23 } : Room)).room s m ([.ref q0, .int ta, .int le, .int ra] : List Value).toArray below meth c s.heap [] 0 0 (MQ below (vp_Si (fun r => r = (m_capacityOf zs ta le ra))) ([.ref q0, .int ta, .int le, .int ra] : List Value).toArray s 0 0 aF) (F0 m 21 ls []) := by
      intro n21
      induction n21 with
      | zero =>
        intro k5_21 hi ls hl hE
        exact absurd hi (by omega)
      | succ n21 ih21 =>
        intro k5_21 hi ls hl hE
        have hE : (m_capacityOf zs ta le ra) = m_capacityOf_b21 zs ta le r_2 (spIter (fun _ => default) (m_capacityOf_b21 zs ta le r_2) n21) k5_21 := hE
        refine lv_iload hx hb dX9_capacityOf_21 (lv_at hl 4 rfl) ?_
        refine lv_iconst (v := 2) hx hb dX9_capacityOf_23 (by decide) ?_
        have J44 : ∀ (ls : Array Slot) (hl : lv_has ls 17 [(0, .ref q0), (1, .int ta), (2, .int le), (4, .int r_2), (5, .int (nI k5_21))]) (hE : (m_capacityOf zs ta le ra) = m_capacityOf_j44 zs ta le r_2 k5_21), W p l e (headSpec wqX9_capacityOf ({ frames := 1, cells := 0, slots := 0, locals := 23 } : Room)).room s m ([.ref q0, .int ta, .int le, .int ra] : List Value).toArray below meth c s.heap [] 0 0 (MQ below (vp_Si (fun r => r = (m_capacityOf zs ta le ra))) ([.ref q0, .int ta, .int le, .int ra] : List Value).toArray s 0 0 aF) (F0 m 44 ls []) := by
          intro ls hl hE
          refine lv_iconst (v := 0) hx hb dX9_capacityOf_44 (by decide) ?_
          refine lv_istore (lv' := [(6, .int (0 : Int32)), (0, .ref q0), (1, .int ta), (2, .int le), (4, .int r_2), (5, .int (nI k5_21))]) hx hb dX9_capacityOf_45 hl (by decide) rfl (fun ls hl => ?_)
          have L47 : ∀ (n47 : Nat) (k6_47 : Nat) (hi : k6_47 ≤ 4 ∧ 4 < k6_47 + n47) (ls : Array Slot) (hl : lv_has ls 17 [(0, .ref q0), (1, .int ta), (2, .int le), (4, .int r_2), (5, .int (nI k5_21)), (6, .int (nI k6_47))]) (hE : (m_capacityOf zs ta le ra) = spIter (fun _ => default) (m_capacityOf_b47 zs ta le r_2 k5_21) n47 k6_47), W p l e (headSpec wqX9_capacityOf ({ frames := 1, cells := 0, slots := 0, locals := 23 } : Room)).room s m ([.ref q0, .int ta, .int le, .int ra] : List Value).toArray below meth c s.heap [] 0 0 (MQ below (vp_Si (fun r => r = (m_capacityOf zs ta le ra))) ([.ref q0, .int ta, .int le, .int ra] : List Value).toArray s 0 0 aF) (F0 m 47 ls []) := by
            intro n47
            induction n47 with
            | zero =>
              intro k6_47 hi ls hl hE
              exact absurd hi (by omega)
            | succ n47 ih47 =>
              intro k6_47 hi ls hl hE
              have hE : (m_capacityOf zs ta le ra) = m_capacityOf_b47 zs ta le r_2 k5_21 (spIter (fun _ => default) (m_capacityOf_b47 zs ta le r_2 k5_21) n47) k6_47 := hE
              refine lv_iload hx hb dX9_capacityOf_47 (lv_at hl 5 rfl) ?_
              refine lv_iconst (v := 4) hx hb dX9_capacityOf_49 (by decide) ?_
              have J71 : ∀ (ls : Array Slot) (hl : lv_has ls 17 [(0, .ref q0), (1, .int ta), (2, .int le), (4, .int r_2), (5, .int (nI k5_21)), (6, .int (nI k6_47))]) (hE : (m_capacityOf zs ta le ra) = m_capacityOf_j71 zs ta le r_2 k5_21 k6_47), W p l e (headSpec wqX9_capacityOf ({ frames := 1, cells := 0, slots := 0, locals := 23 } : Room)).room s m ([.ref q0, .int ta, .int le, .int ra] : List Value).toArray below meth c s.heap [] 0 0 (MQ below (vp_Si (fun r => r = (m_capacityOf zs ta le ra))) ([.ref q0, .int ta, .int le, .int ra] : List Value).toArray s 0 0 aF) (F0 m 71 ls []) := by
                intro ls hl hE
                refine lv_iload hx hb dX9_capacityOf_71 (lv_at hl 5 rfl) ?_
                refine lv_iconst (v := 1) hx hb dX9_capacityOf_73 (by decide) ?_
                refine lv_iadd hx hb dX9_capacityOf_74 ?_
                refine lv_topi (fun y_5 ey_5 => ?_)
                obtain rfl : y_5 = nI (k6_47 + 1) := ey_5.trans (nadd (rfl : (nI k6_47) = nI k6_47) (rfl : (1 : Int32) = nI 1))
                refine vp_callSi (W.runS (As := [.int (nI (k6_47 + 1))]) (rest := []) ⟨hx, hb, hml, hown, hts⟩ (c_X9_columnRadius l dC dI cyI (nI (k6_47 + 1))) (va_cwS 1 hts (gBS b_264 b_265 b_5 b_266) rfl rfl rfl (by decide +kernel) ⟨Nat.le_of_ble_eq_true rfl, Nat.le_of_ble_eq_true rfl⟩) (pre_s eM_ok he hS (hP.sub (ws' := []) [] rfl) (hK.sub (tys' := []) [] rfl)) rfl rfl hl.1 rfl (lv_room (Nat.le_of_ble_eq_true rfl)) dX9_capacityOf_75 ⟨Nat.zero_le _, Nat.zero_le _⟩) (fun r_6 hr_6 => ?_)
                have hE := hE.trans (spLet_eq hr_6)
                refine lv_iload hx hb dX9_capacityOf_78 (lv_at hl 3 rfl) ?_
                refine lv_isub hx hb dX9_capacityOf_80 ?_
                refine lv_i2l hx hb dX9_capacityOf_81 rfl ?_
                refine lv_topl (fun x_7 ex_7 => ?_)
                have hE := hE.trans (spLet_eq ex_7)
                refine lv_lstore (lv' := [(7, .long x_7), (0, .ref q0), (1, .int ta), (2, .int le), (4, .int r_2), (5, .int (nI k5_21)), (6, .int (nI k6_47))]) hx hb dX9_capacityOf_82 hl (by decide) rfl (fun ls hl => ?_)
                refine lv_iload hx hb dX9_capacityOf_84 (lv_at hl 4 rfl) ?_
                refine lv_iload hx hb dX9_capacityOf_86 (lv_at hl 6 rfl) ?_
                refine vp_callSi (W.runS (As := [.int (nI k6_47)]) (rest := [.int r_2]) ⟨hx, hb, hml, hown, hts⟩ (c_X9_columnRadius l dC dI cyI (nI k6_47)) (va_cwS 1 hts (gBS b_264 b_265 b_5 b_266) rfl rfl rfl (by decide +kernel) ⟨Nat.le_of_ble_eq_true rfl, Nat.le_of_ble_eq_true rfl⟩) (pre_s eM_ok he hS (hP.sub (ws' := []) [] rfl) (hK.sub (tys' := []) [] rfl)) rfl rfl hl.1 rfl (lv_room (Nat.le_of_ble_eq_true rfl)) dX9_capacityOf_88 ⟨Nat.zero_le _, Nat.zero_le _⟩) (fun r_8 hr_8 => ?_)
                have hE := hE.trans (spLet_eq hr_8)
                refine lv_isub hx hb dX9_capacityOf_91 ?_
                refine lv_i2l hx hb dX9_capacityOf_92 rfl ?_
                refine lv_topl (fun x_9 ex_9 => ?_)
                have hE := hE.trans (spLet_eq ex_9)
                refine lv_lstore (lv' := [(9, .long x_9), (7, .long x_7), (0, .ref q0), (1, .int ta), (2, .int le), (4, .int r_2), (5, .int (nI k5_21)), (6, .int (nI k6_47))]) hx hb dX9_capacityOf_93 hl (by decide) rfl (fun ls hl => ?_)
                refine lv_aload_n hx hb dX9_capacityOf_95 rfl (lv_at hl 2 rfl) ?_
                refine lv_iload_n hx hb dX9_capacityOf_96 rfl (lv_at hl 3 rfl) ?_
                refine lv_iload hx hb dX9_capacityOf_97 (lv_at hl 6 rfl) ?_
                refine lv_iload hx hb dX9_capacityOf_99 (lv_at hl 7 rfl) ?_
                refine vp_callSl (W.runV (As := [.int ta, .int (nI k5_21), .int (nI k6_47)]) (rest := []) ⟨hx, hb, hml, hown, hts⟩ (c_X9_valueAt l dC dI cyI q0 q1 q2 q3 q4 q5 q6 svc tl cde mm mr ati ors zs zv zt zp zm zk ta (k5_21) (k6_47) (by first | assumption | omega | decide) (by first | assumption | omega | decide) (by first | assumption | omega | decide) (by first | assumption | omega | decide)) (cwV 3 hts (gBV b_285 b_286 b_287 b_5 b_288) rfl rfl rfl (by decide +kernel) ⟨Nat.le_of_ble_eq_true rfl, Nat.le_of_ble_eq_true rfl⟩) (pre_v eM_ok he hS hP hK 0 rfl rfl rfl) rfl rfl hl.1 rfl (lv_room (Nat.le_of_ble_eq_true rfl)) dX9_capacityOf_101 ⟨Nat.zero_le _, Nat.zero_le _⟩) (fun r_10 hr_10 => ?_)
                have hE := hE.trans (spLet_eq hr_10)
                refine lv_lload hx hb dX9_capacityOf_104 (lv_at hl 1 rfl) ?_
                refine lv_lmul hx hb dX9_capacityOf_106 ?_
                refine lv_aload_n hx hb dX9_capacityOf_107 rfl (lv_at hl 2 rfl) ?_
                refine lv_iload_n hx hb dX9_capacityOf_108 rfl (lv_at hl 3 rfl) ?_
                refine lv_iload hx hb dX9_capacityOf_109 (lv_at hl 6 rfl) ?_
                refine lv_iload hx hb dX9_capacityOf_111 (lv_at hl 7 rfl) ?_
                refine lv_iconst (v := 1) hx hb dX9_capacityOf_113 (by decide) ?_
                refine lv_iadd hx hb dX9_capacityOf_114 ?_
                refine lv_topi (fun y_11 ey_11 => ?_)
                obtain rfl : y_11 = nI (k6_47 + 1) := ey_11.trans (nadd (rfl : (nI k6_47) = nI k6_47) (rfl : (1 : Int32) = nI 1))
                refine vp_callSl (W.runV (As := [.int ta, .int (nI k5_21), .int (nI (k6_47 + 1))]) (rest := [.long (r_10 * x_7)]) ⟨hx, hb, hml, hown, hts⟩ (c_X9_valueAt l dC dI cyI q0 q1 q2 q3 q4 q5 q6 svc tl cde mm mr ati ors zs zv zt zp zm zk ta (k5_21) (k6_47 + 1) (by first | assumption | omega | decide) (by first | assumption | omega | decide) (by first | assumption | omega | decide) (by first | assumption | omega | decide)) (cwV 3 hts (gBV b_285 b_286 b_287 b_5 b_288) rfl rfl rfl (by decide +kernel) ⟨Nat.le_of_ble_eq_true rfl, Nat.le_of_ble_eq_true rfl⟩) (pre_v eM_ok he hS hP hK 0 rfl rfl rfl) rfl rfl hl.1 rfl (lv_room (Nat.le_of_ble_eq_true rfl)) dX9_capacityOf_115 ⟨Nat.zero_le _, Nat.zero_le _⟩) (fun r_12 hr_12 => ?_)
                have hE := hE.trans (spLet_eq hr_12)
                refine lv_lload hx hb dX9_capacityOf_118 (lv_at hl 0 rfl) ?_
                refine lv_lmul hx hb dX9_capacityOf_120 ?_
                refine lv_ladd hx hb dX9_capacityOf_121 ?_
                refine lv_topl (fun x_13 ex_13 => ?_)
                have hE := hE.trans (spLet_eq ex_13)
                refine lv_lstore (lv' := [(11, .long x_13), (9, .long x_9), (7, .long x_7), (0, .ref q0), (1, .int ta), (2, .int le), (4, .int r_2), (5, .int (nI k5_21)), (6, .int (nI k6_47))]) hx hb dX9_capacityOf_122 hl (by decide) rfl (fun ls hl => ?_)
                refine lv_aload_n hx hb dX9_capacityOf_124 rfl (lv_at hl 3 rfl) ?_
                refine lv_iload_n hx hb dX9_capacityOf_125 rfl (lv_at hl 4 rfl) ?_
                refine lv_iload hx hb dX9_capacityOf_126 (lv_at hl 7 rfl) ?_
                refine lv_iconst (v := 1) hx hb dX9_capacityOf_128 (by decide) ?_
                refine lv_iadd hx hb dX9_capacityOf_129 ?_
                refine lv_topi (fun y_14 ey_14 => ?_)
                obtain rfl : y_14 = nI (k5_21 + 1) := ey_14.trans (nadd (rfl : (nI k5_21) = nI k5_21) (rfl : (1 : Int32) = nI 1))
                refine lv_iload hx hb dX9_capacityOf_130 (lv_at hl 8 rfl) ?_
                refine vp_callSl (W.runV (As := [.int ta, .int (nI (k5_21 + 1)), .int (nI k6_47)]) (rest := []) ⟨hx, hb, hml, hown, hts⟩ (c_X9_valueAt l dC dI cyI q0 q1 q2 q3 q4 q5 q6 svc tl cde mm mr ati ors zs zv zt zp zm zk ta (k5_21 + 1) (k6_47) (by first | assumption | omega | decide) (by first | assumption | omega | decide) (by first | assumption | omega | decide) (by first | assumption | omega | decide)) (cwV 3 hts (gBV b_285 b_286 b_287 b_5 b_288) rfl rfl rfl (by decide +kernel) ⟨Nat.le_of_ble_eq_true rfl, Nat.le_of_ble_eq_true rfl⟩) (pre_v eM_ok he hS hP hK 0 rfl rfl rfl) rfl rfl hl.1 rfl (lv_room (Nat.le_of_ble_eq_true rfl)) dX9_capacityOf_132 ⟨Nat.zero_le _, Nat.zero_le _⟩) (fun r_15 hr_15 => ?_)
                have hE := hE.trans (spLet_eq hr_15)
                refine lv_lload hx hb dX9_capacityOf_135 (lv_at hl 2 rfl) ?_
                refine lv_lmul hx hb dX9_capacityOf_137 ?_
                refine lv_aload_n hx hb dX9_capacityOf_138 rfl (lv_at hl 3 rfl) ?_
                refine lv_iload_n hx hb dX9_capacityOf_139 rfl (lv_at hl 4 rfl) ?_
                refine lv_iload hx hb dX9_capacityOf_140 (lv_at hl 7 rfl) ?_
                refine lv_iconst (v := 1) hx hb dX9_capacityOf_142 (by decide) ?_
                refine lv_iadd hx hb dX9_capacityOf_143 ?_
                refine lv_topi (fun y_16 ey_16 => ?_)
                obtain rfl : y_16 = nI (k5_21 + 1) := ey_16.trans (nadd (rfl : (nI k5_21) = nI k5_21) (rfl : (1 : Int32) = nI 1))
                refine lv_iload hx hb dX9_capacityOf_144 (lv_at hl 8 rfl) ?_
                refine lv_iconst (v := 1) hx hb dX9_capacityOf_146 (by decide) ?_
                refine lv_iadd hx hb dX9_capacityOf_147 ?_
                refine lv_topi (fun y_17 ey_17 => ?_)
                obtain rfl : y_17 = nI (k6_47 + 1) := ey_17.trans (nadd (rfl : (nI k6_47) = nI k6_47) (rfl : (1 : Int32) = nI 1))
                refine vp_callSl (W.runV (As := [.int ta, .int (nI (k5_21 + 1)), .int (nI (k6_47 + 1))]) (rest := [.long (r_15 * x_7)]) ⟨hx, hb, hml, hown, hts⟩ (c_X9_valueAt l dC dI cyI q0 q1 q2 q3 q4 q5 q6 svc tl cde mm mr ati ors zs zv zt zp zm zk ta (k5_21 + 1) (k6_47 + 1) (by first | assumption | omega | decide) (by first | assumption | omega | decide) (by first | assumption | omega | decide) (by first | assumption | omega | decide)) (cwV 3 hts (gBV b_285 b_286 b_287 b_5 b_288) rfl rfl rfl (by decide +kernel) ⟨Nat.le_of_ble_eq_true rfl, Nat.le_of_ble_eq_true rfl⟩) (pre_v eM_ok he hS hP hK 0 rfl rfl rfl) rfl rfl hl.1 rfl (lv_room (Nat.le_of_ble_eq_true rfl)) dX9_capacityOf_148 ⟨Nat.zero_le _, Nat.zero_le _⟩) (fun r_18 hr_18 => ?_)
                have hE := hE.trans (spLet_eq hr_18)
                refine lv_lload hx hb dX9_capacityOf_151 (lv_at hl 1 rfl) ?_
                refine lv_lmul hx hb dX9_capacityOf_153 ?_
                refine lv_ladd hx hb dX9_capacityOf_154 ?_
                refine lv_topl (fun x_19 ex_19 => ?_)
                have hE := hE.trans (spLet_eq ex_19)
                refine lv_lstore (lv' := [(13, .long x_19), (11, .long x_13), (9, .long x_9), (7, .long x_7), (0, .ref q0), (1, .int ta), (2, .int le), (4, .int r_2), (5, .int (nI k5_21)), (6, .int (nI k6_47))]) hx hb dX9_capacityOf_155 hl (by decide) rfl (fun ls hl => ?_)
                refine lv_iload hx hb dX9_capacityOf_157 (lv_at hl 9 rfl) ?_
                refine lv_iconst (v := 1) hx hb dX9_capacityOf_159 (by decide) ?_
                refine lv_iadd hx hb dX9_capacityOf_160 ?_
                refine lv_topi (fun y_20 ey_20 => ?_)
                obtain rfl : y_20 = nI (k6_47 + 1) := ey_20.trans (nadd (rfl : (nI k6_47) = nI k6_47) (rfl : (1 : Int32) = nI 1))
                refine vp_callSi (W.runS (As := [.int (nI (k6_47 + 1))]) (rest := []) ⟨hx, hb, hml, hown, hts⟩ (c_X9_columnRadius l dC dI cyI (nI (k6_47 + 1))) (va_cwS 1 hts (gBS b_264 b_265 b_5 b_266) rfl rfl rfl (by decide +kernel) ⟨Nat.le_of_ble_eq_true rfl, Nat.le_of_ble_eq_true rfl⟩) (pre_s eM_ok he hS (hP.sub (ws' := []) [] rfl) (hK.sub (tys' := []) [] rfl)) rfl rfl hl.1 rfl (lv_room (Nat.le_of_ble_eq_true rfl)) dX9_capacityOf_161 ⟨Nat.zero_le _, Nat.zero_le _⟩) (fun r_21 hr_21 => ?_)
                have hE := hE.trans (spLet_eq hr_21)
                refine lv_iload hx hb dX9_capacityOf_164 (lv_at hl 9 rfl) ?_
                refine vp_callSi (W.runS (As := [.int (nI k6_47)]) (rest := [.int r_21]) ⟨hx, hb, hml, hown, hts⟩ (c_X9_columnRadius l dC dI cyI (nI k6_47)) (va_cwS 1 hts (gBS b_264 b_265 b_5 b_266) rfl rfl rfl (by decide +kernel) ⟨Nat.le_of_ble_eq_true rfl, Nat.le_of_ble_eq_true rfl⟩) (pre_s eM_ok he hS (hP.sub (ws' := []) [] rfl) (hK.sub (tys' := []) [] rfl)) rfl rfl hl.1 rfl (lv_room (Nat.le_of_ble_eq_true rfl)) dX9_capacityOf_166 ⟨Nat.zero_le _, Nat.zero_le _⟩) (fun r_22 hr_22 => ?_)
                have hE := hE.trans (spLet_eq hr_22)
                refine lv_isub hx hb dX9_capacityOf_169 ?_
                refine lv_i2l hx hb dX9_capacityOf_170 rfl ?_
                refine lv_iload hx hb dX9_capacityOf_171 (lv_at hl 8 rfl) ?_
                refine lv_iconst (v := 1) hx hb dX9_capacityOf_173 (by decide) ?_
                refine lv_iadd hx hb dX9_capacityOf_174 ?_
                refine lv_topi (fun y_23 ey_23 => ?_)
                obtain rfl : y_23 = nI (k5_21 + 1) := ey_23.trans (nadd (rfl : (nI k5_21) = nI k5_21) (rfl : (1 : Int32) = nI 1))
                refine vp_callSi (W.runS (As := [.int (nI (k5_21 + 1))]) (rest := [.long (r_21 - r_22).toInt64]) ⟨hx, hb, hml, hown, hts⟩ (c_X9_rowLength l dC dI cyI (nI (k5_21 + 1))) (va_cwS 1 hts (gBS b_725 b_726 b_5 b_727) rfl rfl rfl (by decide +kernel) ⟨Nat.le_of_ble_eq_true rfl, Nat.le_of_ble_eq_true rfl⟩) (pre_s eM_ok he hS (hP.sub (ws' := []) [] rfl) (hK.sub (tys' := []) [] rfl)) rfl rfl hl.1 rfl (lv_room (Nat.le_of_ble_eq_true rfl)) dX9_capacityOf_175 ⟨Nat.zero_le _, Nat.zero_le _⟩) (fun r_24 hr_24 => ?_)
                have hE := hE.trans (spLet_eq hr_24)
                refine lv_iload hx hb dX9_capacityOf_178 (lv_at hl 8 rfl) ?_
                refine vp_callSi (W.runS (As := [.int (nI k5_21)]) (rest := [.int r_24, .long (r_21 - r_22).toInt64]) ⟨hx, hb, hml, hown, hts⟩ (c_X9_rowLength l dC dI cyI (nI k5_21)) (va_cwS 1 hts (gBS b_725 b_726 b_5 b_727) rfl rfl rfl (by decide +kernel) ⟨Nat.le_of_ble_eq_true rfl, Nat.le_of_ble_eq_true rfl⟩) (pre_s eM_ok he hS (hP.sub (ws' := []) [] rfl) (hK.sub (tys' := []) [] rfl)) rfl rfl hl.1 rfl (lv_room (Nat.le_of_ble_eq_true rfl)) dX9_capacityOf_180 ⟨Nat.zero_le _, Nat.zero_le _⟩) (fun r_25 hr_25 => ?_)
                have hE := hE.trans (spLet_eq hr_25)
                refine lv_isub hx hb dX9_capacityOf_183 ?_
                refine lv_i2l hx hb dX9_capacityOf_184 rfl ?_
                refine lv_lmul hx hb dX9_capacityOf_185 ?_
                refine lv_topl (fun x_26 ex_26 => ?_)
                have hE := hE.trans (spLet_eq ex_26)
                refine lv_lstore (lv' := [(15, .long x_26), (13, .long x_19), (11, .long x_13), (9, .long x_9), (7, .long x_7), (0, .ref q0), (1, .int ta), (2, .int le), (4, .int r_2), (5, .int (nI k5_21)), (6, .int (nI k6_47))]) hx hb dX9_capacityOf_186 hl (by decide) rfl (fun ls hl => ?_)
                refine lv_lload hx hb dX9_capacityOf_188 (lv_at hl 2 rfl) ?_
                refine lv_iload hx hb dX9_capacityOf_190 (lv_at hl 9 rfl) ?_
                refine lv_iconst (v := 1) hx hb dX9_capacityOf_192 (by decide) ?_
                refine lv_iadd hx hb dX9_capacityOf_193 ?_
                refine lv_topi (fun y_27 ey_27 => ?_)
                obtain rfl : y_27 = nI (k5_21 + 1) := ey_27.trans (nadd (rfl : (nI k5_21) = nI k5_21) (rfl : (1 : Int32) = nI 1))
                refine vp_callSi (W.runS (As := [.int (nI (k5_21 + 1))]) (rest := [.long x_13]) ⟨hx, hb, hml, hown, hts⟩ (c_X9_rowLength l dC dI cyI (nI (k5_21 + 1))) (va_cwS 1 hts (gBS b_725 b_726 b_5 b_727) rfl rfl rfl (by decide +kernel) ⟨Nat.le_of_ble_eq_true rfl, Nat.le_of_ble_eq_true rfl⟩) (pre_s eM_ok he hS (hP.sub (ws' := []) [] rfl) (hK.sub (tys' := []) [] rfl)) rfl rfl hl.1 rfl (lv_room (Nat.le_of_ble_eq_true rfl)) dX9_capacityOf_194 ⟨Nat.zero_le _, Nat.zero_le _⟩) (fun r_28 hr_28 => ?_)
                have hE := hE.trans (spLet_eq hr_28)
                refine lv_iload_n hx hb dX9_capacityOf_197 rfl (lv_at hl 7 rfl) ?_
                refine lv_isub hx hb dX9_capacityOf_198 ?_
                refine lv_i2l hx hb dX9_capacityOf_199 rfl ?_
                refine lv_lmul hx hb dX9_capacityOf_200 ?_
                refine lv_lload hx hb dX9_capacityOf_201 (lv_at hl 1 rfl) ?_
                refine lv_iload_n hx hb dX9_capacityOf_203 rfl (lv_at hl 7 rfl) ?_
                refine lv_iload hx hb dX9_capacityOf_204 (lv_at hl 9 rfl) ?_
                refine vp_callSi (W.runS (As := [.int (nI k5_21)]) (rest := [.int le, .long x_19, .long (x_13 * ((r_28 - le).toInt64))]) ⟨hx, hb, hml, hown, hts⟩ (c_X9_rowLength l dC dI cyI (nI k5_21)) (va_cwS 1 hts (gBS b_725 b_726 b_5 b_727) rfl rfl rfl (by decide +kernel) ⟨Nat.le_of_ble_eq_true rfl, Nat.le_of_ble_eq_true rfl⟩) (pre_s eM_ok he hS (hP.sub (ws' := []) [] rfl) (hK.sub (tys' := []) [] rfl)) rfl rfl hl.1 rfl (lv_room (Nat.le_of_ble_eq_true rfl)) dX9_capacityOf_206 ⟨Nat.zero_le _, Nat.zero_le _⟩) (fun r_29 hr_29 => ?_)
                have hE := hE.trans (spLet_eq hr_29)
                refine lv_isub hx hb dX9_capacityOf_209 ?_
                refine lv_i2l hx hb dX9_capacityOf_210 rfl ?_
                refine lv_lmul hx hb dX9_capacityOf_211 ?_
                refine lv_ladd hx hb dX9_capacityOf_212 ?_
                refine lv_lload hx hb dX9_capacityOf_213 (lv_at hl 0 rfl) ?_
                refine lv_ldiv hx hb dX9_capacityOf_215 (by rw [ex_26, hr_21, hr_22, hr_24, hr_25]; exact wide0 _ (by omega) _ (by omega)) ?_
                refine lv_l2i hx hb dX9_capacityOf_216 rfl ?_
                exact W.iret (v := (((x_13 * ((r_28 - le).toInt64)) + (x_19 * ((le - r_29).toInt64))) / x_26).toInt32) hx hb hr (fun t ht hW => ⟨_, rfl, hE.symm, ht⟩) (fun q h => by cases h) dX9_capacityOf_217
              refine lv_icmp_ge (tgt := 71) hx hb dX9_capacityOf_50 (by decide) (fun c_4 => ?_) (fun c_4 => ?_)
              ·
                have c_4 : 4 ≤ k6_47 := by
                  have h1 : ((nI k6_47)) = nI k6_47 := rfl
                  have h2 : ((4 : Int32)) = nI 4 := rfl
                  have h3 : (nI 4 ≤ nI k6_47) := by first | exact c_4 | (rw [← h1, ← h2]; exact c_4)
                  exact (nI_leI (by omega) (by omega)).mp h3
                have hE := hE.trans (if_pos c_4)
                exact J71 ls (lv_sub hl [0, 1, 2, 3, 4, 5] rfl) hE
              ·
                have c_4 : ¬ 4 ≤ k6_47 := by
                  have h1 : ((nI k6_47)) = nI k6_47 := rfl
                  have h2 : ((4 : Int32)) = nI 4 := rfl
                  have h3 : ¬ (nI 4 ≤ nI k6_47) := by first | exact c_4 | (rw [← h1, ← h2]; exact c_4)
                  exact fun h => h3 ((nI_leI (by omega) (by omega)).mpr h)
                have hE := hE.trans (if_neg c_4)
                refine lv_iload hx hb dX9_capacityOf_53 (lv_at hl 5 rfl) ?_
                refine lv_iconst (v := 1) hx hb dX9_capacityOf_55 (by decide) ?_
                refine lv_iadd hx hb dX9_capacityOf_56 ?_
                refine lv_topi (fun y_30 ey_30 => ?_)
                obtain rfl : y_30 = nI (k6_47 + 1) := ey_30.trans (nadd (rfl : (nI k6_47) = nI k6_47) (rfl : (1 : Int32) = nI 1))
                refine vp_callSi (W.runS (As := [.int (nI (k6_47 + 1))]) (rest := []) ⟨hx, hb, hml, hown, hts⟩ (c_X9_columnRadius l dC dI cyI (nI (k6_47 + 1))) (va_cwS 1 hts (gBS b_264 b_265 b_5 b_266) rfl rfl rfl (by decide +kernel) ⟨Nat.le_of_ble_eq_true rfl, Nat.le_of_ble_eq_true rfl⟩) (pre_s eM_ok he hS (hP.sub (ws' := []) [] rfl) (hK.sub (tys' := []) [] rfl)) rfl rfl hl.1 rfl (lv_room (Nat.le_of_ble_eq_true rfl)) dX9_capacityOf_57 ⟨Nat.zero_le _, Nat.zero_le _⟩) (fun r_31 hr_31 => ?_)
                have hE := hE.trans (spLet_eq hr_31)
                refine lv_iload hx hb dX9_capacityOf_60 (lv_at hl 3 rfl) ?_
                refine lv_icmp_ge (tgt := 71) hx hb dX9_capacityOf_62 (by decide) (fun c_32 => ?_) (fun c_32 => ?_)
                ·
                  have hE := hE.trans (if_pos c_32)
                  exact J71 ls (lv_sub hl [0, 1, 2, 3, 4, 5] rfl) hE
                ·
                  have hE := hE.trans (if_neg c_32)
                  refine lv_iinc (v := (nI (k6_47 + 1))) (lv' := [(6, .int (nI (k6_47 + 1))), (0, .ref q0), (1, .int ta), (2, .int le), (4, .int r_2), (5, .int (nI k5_21))]) hx hb dX9_capacityOf_65 hl (k := 5) rfl (show _ from (congrArg (fun z => z + Int32.ofInt 1) (rfl)).trans (ninc _ 1)) (by decide) rfl (fun ls hl => ?_)
                  refine lv_goto (tgt := 47) hx hb dX9_capacityOf_68 (by decide) ?_
                  exact ih47 (k6_47 + 1) (by omega) ls (lv_sub hl [1, 2, 3, 4, 5, 0] rfl) hE
          exact L47 5 0 (by omega) ls (lv_sub hl [1, 2, 3, 4, 5, 0] rfl) hE
        refine lv_icmp_ge (tgt := 44) hx hb dX9_capacityOf_24 (by decide) (fun c_3 => ?_) (fun c_3 => ?_)
        ·
          have c_3 : 2 ≤ k5_21 := by
            have h1 : ((nI k5_21)) = nI k5_21 := rfl
            have h2 : ((2 : Int32)) = nI 2 := rfl
            have h3 : (nI 2 ≤ nI k5_21) := by first | exact c_3 | (rw [← h1, ← h2]; exact c_3)
            exact (nI_leI (by omega) (by omega)).mp h3
          have hE := hE.trans (if_pos c_3)
          exact J44 ls (lv_sub hl [0, 1, 2, 3, 4] rfl) hE
        ·
          have c_3 : ¬ 2 ≤ k5_21 := by
            have h1 : ((nI k5_21)) = nI k5_21 := rfl
            have h2 : ((2 : Int32)) = nI 2 := rfl
            have h3 : ¬ (nI 2 ≤ nI k5_21) := by first | exact c_3 | (rw [← h1, ← h2]; exact c_3)
            exact fun h => h3 ((nI_leI (by omega) (by omega)).mpr h)
          have hE := hE.trans (if_neg c_3)
          refine lv_iload hx hb dX9_capacityOf_27 (lv_at hl 4 rfl) ?_
          refine lv_iconst (v := 1) hx hb dX9_capacityOf_29 (by decide) ?_
          refine lv_iadd hx hb dX9_capacityOf_30 ?_
          refine lv_topi (fun y_33 ey_33 => ?_)
          obtain rfl : y_33 = nI (k5_21 + 1) := ey_33.trans (nadd (rfl : (nI k5_21) = nI k5_21) (rfl : (1 : Int32) = nI 1))
          refine vp_callSi (W.runS (As := [.int (nI (k5_21 + 1))]) (rest := []) ⟨hx, hb, hml, hown, hts⟩ (c_X9_rowLength l dC dI cyI (nI (k5_21 + 1))) (va_cwS 1 hts (gBS b_725 b_726 b_5 b_727) rfl rfl rfl (by decide +kernel) ⟨Nat.le_of_ble_eq_true rfl, Nat.le_of_ble_eq_true rfl⟩) (pre_s eM_ok he hS (hP.sub (ws' := []) [] rfl) (hK.sub (tys' := []) [] rfl)) rfl rfl hl.1 rfl (lv_room (Nat.le_of_ble_eq_true rfl)) dX9_capacityOf_31 ⟨Nat.zero_le _, Nat.zero_le _⟩) (fun r_34 hr_34 => ?_)
          have hE := hE.trans (spLet_eq hr_34)
          refine lv_iload_n hx hb dX9_capacityOf_34 rfl (lv_at hl 2 rfl) ?_
          refine lv_icmp_ge (tgt := 44) hx hb dX9_capacityOf_35 (by decide) (fun c_35 => ?_) (fun c_35 => ?_)
          ·
            have hE := hE.trans (if_pos c_35)
            exact J44 ls (lv_sub hl [0, 1, 2, 3, 4] rfl) hE
          ·
            have hE := hE.trans (if_neg c_35)
            refine lv_iinc (v := (nI (k5_21 + 1))) (lv' := [(5, .int (nI (k5_21 + 1))), (0, .ref q0), (1, .int ta), (2, .int le), (4, .int r_2)]) hx hb dX9_capacityOf_38 hl (k := 4) rfl (show _ from (congrArg (fun z => z + Int32.ofInt 1) (rfl)).trans (ninc _ 1)) (by decide) rfl (fun ls hl => ?_)
            refine lv_goto (tgt := 21) hx hb dX9_capacityOf_41 (by decide) ?_
            exact ih21 (k5_21 + 1) (by omega) ls (lv_sub hl [1, 2, 3, 4, 0] rfl) hE
    exact L21 3 0 (by omega) ls (lv_sub hl [2, 3, 4, 1, 0] rfl) hE
  ·
    have hE := hE.trans (if_neg c_1)
    refine lv_iconst (v := 0) hx hb dX9_capacityOf_7 (by decide) ?_
    exact W.iret (v := (0 : Int32)) hx hb hr (fun t ht hW => ⟨_, rfl, hE.symm, ht⟩) (fun q h => by cases h) dX9_capacityOf_8

