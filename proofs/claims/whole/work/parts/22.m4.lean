def m_ratedFor_j34 (zs : Nat → Int32) (le : Int32) (ra : Int32) (sl : Int32) (t0_34 : Int32) : Int32 :=
  spLet (m_tableAt zs sl) (fun r_3 => spLet (m_capacityOf zs r_3 le ra) (fun r_4 => ((r_4.toInt64 * t0_34.toInt64) / (1000 : Int64)).toInt32))
def m_ratedFor (zs : Nat → Int32) (le : Int32) (ra : Int32) (sl : Int32) : Int32 :=
  spLet (m_windNow zs) (fun r_1 => if (100 : Int32) < r_1 then (spLet (m_greater (0 : Int32) ((1000 : Int32) - ((2 : Int32) * (r_1 - (100 : Int32))))) (fun r_5 => m_ratedFor_j34 zs le ra sl r_5)) else (m_ratedFor_j34 zs le ra sl (1000 : Int32)))
set_option maxHeartbeats 1000000 in
set_option maxRecDepth 100000 in
theorem c_X9_ratedFor (l : Launch) (dC : Nat → ClassId) (dI : Nat → Nat → Nat) (cyI : ClassId) (q0 : Nat) (q1 : Nat) (q2 : Nat) (q3 : Nat) (q4 : Nat) (q5 : Nat) (q6 : Nat) (svc : Int32) (tl : Int32) (cde : Int32) (mm : Int32) (mr : Int32) (ati : Int32) (ors : Int32) (zs : Nat → Int32) (zv : Nat → Int32) (zt : Nat → Int32) (zp : Nat → Int32) (zm : Nat → Int32) (zk : Nat → Int32) (le : Int32) (ra : Int32) (sl : Int32) (hG : mG zs) : Met l yX9_ratedFor wqX9_ratedFor ({ frames := 3, cells := 0, slots := 0, locals := 66 } : Room) (va_Pc [.ref q0, .int le, .int ra, .int sl] (pB (dC, dI) [(q0, .inr (9, [.ref q1, .ref q2, .int svc, .ref q3, .int tl, .int cde, .int mm, .int mr, .ref q4, .int ati, .int ors, .ref q5, .ref q6])), (q1, .inl (cyI, 246, .inl zs)), (q2, .inl (cyI, 984, .inl zv)), (q3, .inl (cyI, 80, .inl zt)), (q4, .inl (cyI, 5, .inl zp)), (q5, .inl (cyI, 40, .inl zm)), (q6, .inl (cyI, 40, .inl zk))] [(cyI, .int)] eM)) (vp_Si (fun r => r = (m_ratedFor zs le ra sl))) 0 0 aF := by
  refine Met.ofW (cc := cX9_ratedFor) (maxL := 6) (ret := (some .int)) (by decide) rfl ?_
  intro p e s m args below meth c s₁ B hml hv
  obtain ⟨rfl, hP, hK, he⟩ := hv
  have hx := B.exec
  have hb := B.bytes
  have hr := B.returns
  have hts := atoms_spec (ws := wqX9_ratedFor) B.pre
  have hown : s.vm.findClass RX9 = some m.cls := findClass_of_methodNamed B.named
  have hlocks := B.notSynchronized
  have w_0 := hts (Cond.constantLong RX9 110 (1000)) (List.mem_cons_of_mem _ b_713)
  have hS : va_S aF s.heap s.heap [] := va_S.rf
  have hP : va_P (dC, dI) vwCl [(q0, .inr (9, [.ref q1, .ref q2, .int svc, .ref q3, .int tl, .int cde, .int mm, .int mr, .ref q4, .int ati, .int ors, .ref q5, .ref q6])), (q1, .inl (cyI, 246, .inl zs)), (q2, .inl (cyI, 984, .inl zv)), (q3, .inl (cyI, 80, .inl zt)), (q4, .inl (cyI, 5, .inl zp)), (q5, .inl (cyI, 40, .inl zm)), (q6, .inl (cyI, 40, .inl zk))] s.heap := hP
  have hl := lv_entry ([.ref q0, .int le, .int ra, .int sl] : List Value) (n := 6) (Nat.le_of_ble_eq_true rfl)
  rw [lg_entry_eq]
  generalize (lg_sl ([.ref q0, .int le, .int ra, .int sl] : List Value) ++ List.replicate (6 - (lg_sl ([.ref q0, .int le, .int ra, .int sl] : List Value)).length) Slot.unset).toArray = ls at hl ⊢
  have hl : lv_has ls 6 [(0, .ref q0), (1, .int le), (2, .int ra), (3, .int sl)] := hl
  have hE : m_ratedFor zs le ra sl = m_ratedFor zs le ra sl := rfl
  refine lv_aload_n hx hb dX9_ratedFor_0 rfl (lv_at hl 0 rfl) ?_
  refine vp_callSi (W.runV (As := []) (rest := []) ⟨hx, hb, hml, hown, hts⟩ (c_X9_windNow l dC dI cyI q0 q1 q2 q3 q4 q5 q6 svc tl cde mm mr ati ors zs zv zt zp zm zk) (cwV 0 hts (gBV b_422 b_423 b_424 b_5 b_425) rfl rfl rfl (by decide +kernel) ⟨Nat.le_of_ble_eq_true rfl, Nat.le_of_ble_eq_true rfl⟩) (pre_v eM_ok he hS hP hK 0 rfl rfl rfl) rfl rfl hl.1 rfl (lv_room (Nat.le_of_ble_eq_true rfl)) dX9_ratedFor_1 ⟨Nat.zero_le _, Nat.zero_le _⟩) (fun r_1 hr_1 => ?_)
  have hE := hE.trans (spLet_eq hr_1)
  refine lv_istore (lv' := [(4, .int r_1), (0, .ref q0), (1, .int le), (2, .int ra), (3, .int sl)]) hx hb dX9_ratedFor_4 hl (by decide) rfl (fun ls hl => ?_)
  refine lv_iload hx hb dX9_ratedFor_6 (lv_at hl 0 rfl) ?_
  refine lv_bipush (v := 100) hx hb dX9_ratedFor_8 (by decide) ?_
  have J34 : ∀ (t0_34 : Int32) (ls : Array Slot) (hl : lv_has ls 6 [(0, .ref q0), (1, .int le), (2, .int ra), (3, .int sl)]) (hE : (m_ratedFor zs le ra sl) = m_ratedFor_j34 zs le ra sl t0_34), W p l e (headSpec wqX9_ratedFor ({ frames := 3, cells := 0, slots := 0, locals := 66 } : Room)).room s m ([.ref q0, .int le, .int ra, .int sl] : List Value).toArray below meth c s.heap [] 0 0 (MQ below (vp_Si (fun r => r = (m_ratedFor zs le ra sl))) ([.ref q0, .int le, .int ra, .int sl] : List Value).toArray s 0 0 aF) (F0 m 34 ls [.int t0_34]) := by
    intro t0_34 ls hl hE
    refine lv_istore (lv' := [(5, .int t0_34), (0, .ref q0), (1, .int le), (2, .int ra), (3, .int sl)]) hx hb dX9_ratedFor_34 hl (by decide) rfl (fun ls hl => ?_)
    refine lv_aload_n hx hb dX9_ratedFor_36 rfl (lv_at hl 1 rfl) ?_
    refine lv_aload_n hx hb dX9_ratedFor_37 rfl (lv_at hl 1 rfl) ?_
    refine lv_iload_n hx hb dX9_ratedFor_38 rfl (lv_at hl 4 rfl) ?_
    refine vp_callSi (W.runV (As := [.int sl]) (rest := [.ref q0]) ⟨hx, hb, hml, hown, hts⟩ (c_X9_tableAt l dC dI cyI q0 q1 q2 q3 q4 q5 q6 svc tl cde mm mr ati ors zs zv zt zp zm zk sl) (cwV 1 hts (gBV b_714 b_715 b_716 b_5 b_717) rfl rfl rfl (by decide +kernel) ⟨Nat.le_of_ble_eq_true rfl, Nat.le_of_ble_eq_true rfl⟩) (pre_v eM_ok he hS hP hK 0 rfl rfl rfl) rfl rfl hl.1 rfl (lv_room (Nat.le_of_ble_eq_true rfl)) dX9_ratedFor_39 ⟨Nat.zero_le _, Nat.zero_le _⟩) (fun r_3 hr_3 => ?_)
    have hE := hE.trans (spLet_eq hr_3)
    refine lv_iload_n hx hb dX9_ratedFor_42 rfl (lv_at hl 2 rfl) ?_
    refine lv_iload_n hx hb dX9_ratedFor_43 rfl (lv_at hl 3 rfl) ?_
    refine vp_callSi (W.runV (As := [.int r_3, .int le, .int ra]) (rest := []) ⟨hx, hb, hml, hown, hts⟩ (c_X9_capacityOf l dC dI cyI q0 q1 q2 q3 q4 q5 q6 svc tl cde mm mr ati ors zs zv zt zp zm zk r_3 le ra (by rw [hr_3]; exact (tableAt_n hG _).1) (by rw [hr_3]; exact (tableAt_n hG _).2)) (cwV 3 hts (gBV b_721 b_722 b_723 b_5 b_724) rfl rfl rfl (by decide +kernel) ⟨Nat.le_of_ble_eq_true rfl, Nat.le_of_ble_eq_true rfl⟩) (pre_v eM_ok he hS hP hK 0 rfl rfl rfl) rfl rfl hl.1 rfl (lv_room (Nat.le_of_ble_eq_true rfl)) dX9_ratedFor_44 ⟨Nat.zero_le _, Nat.zero_le _⟩) (fun r_4 hr_4 => ?_)
    have hE := hE.trans (spLet_eq hr_4)
    refine lv_i2l hx hb dX9_ratedFor_47 rfl ?_
    refine lv_iload hx hb dX9_ratedFor_48 (lv_at hl 0 rfl) ?_
    refine lv_i2l hx hb dX9_ratedFor_50 rfl ?_
    refine lv_lmul hx hb dX9_ratedFor_51 ?_
    refine lv_ldc2 (v := 1000) hx hb hown w_0 dX9_ratedFor_52 ?_
    refine lv_ldiv hx hb dX9_ratedFor_55 (by decide) ?_
    refine lv_l2i hx hb dX9_ratedFor_56 rfl ?_
    exact W.iret (v := ((r_4.toInt64 * t0_34.toInt64) / (1000 : Int64)).toInt32) hx hb hr (fun t ht hW => ⟨_, rfl, hE.symm, ht⟩) (fun q h => by cases h) dX9_ratedFor_57
  refine lv_icmp_gt (tgt := 19) hx hb dX9_ratedFor_10 (by decide) (fun c_2 => ?_) (fun c_2 => ?_)
  ·
    have hE := hE.trans (if_pos c_2)
    refine lv_iconst (v := 0) hx hb dX9_ratedFor_19 (by decide) ?_
    refine lv_sipush (v := 1000) hx hb dX9_ratedFor_20 (by decide) ?_
    refine lv_iconst (v := 2) hx hb dX9_ratedFor_23 (by decide) ?_
    refine lv_iload hx hb dX9_ratedFor_24 (lv_at hl 0 rfl) ?_
    refine lv_bipush (v := 100) hx hb dX9_ratedFor_26 (by decide) ?_
    refine lv_isub hx hb dX9_ratedFor_28 ?_
    refine lv_imul hx hb dX9_ratedFor_29 ?_
    refine lv_isub hx hb dX9_ratedFor_30 ?_
    refine vp_callSi (W.runS (As := [.int (0 : Int32), .int ((1000 : Int32) - ((2 : Int32) * (r_1 - (100 : Int32))))]) (rest := []) ⟨hx, hb, hml, hown, hts⟩ (c_X9_greater l dC dI cyI (0 : Int32) ((1000 : Int32) - ((2 : Int32) * (r_1 - (100 : Int32))))) (va_cwS 2 hts (gBS b_393 b_394 b_5 b_395) rfl rfl rfl (by decide +kernel) ⟨Nat.le_of_ble_eq_true rfl, Nat.le_of_ble_eq_true rfl⟩) (pre_s eM_ok he hS (hP.sub (ws' := []) [] rfl) (hK.sub (tys' := []) [] rfl)) rfl rfl hl.1 rfl (lv_room (Nat.le_of_ble_eq_true rfl)) dX9_ratedFor_31 ⟨Nat.zero_le _, Nat.zero_le _⟩) (fun r_5 hr_5 => ?_)
    have hE := hE.trans (spLet_eq hr_5)
    exact J34 r_5 ls (lv_sub hl [1, 2, 3, 4] rfl) hE
  ·
    have hE := hE.trans (if_neg c_2)
    refine lv_sipush (v := 1000) hx hb dX9_ratedFor_13 (by decide) ?_
    refine lv_goto (tgt := 34) hx hb dX9_ratedFor_16 (by decide) ?_
    exact J34 (1000 : Int32) ls (lv_sub hl [1, 2, 3, 4] rfl) hE
def m_utilizationAt (mm : Int32) (mr : Int32) (zs : Nat → Int32) (sl : Int32) : Int32 :=
  spLet (m_netLoad mm zs) (fun r_1 => spLet (m_ratedFor zs (zs 0) mr sl) (fun r_2 => spLet (m_utilizationOf r_1 r_2) (fun r_3 => r_3)))
set_option maxHeartbeats 1000000 in
set_option maxRecDepth 100000 in
theorem c_X9_utilizationAt (l : Launch) (dC : Nat → ClassId) (dI : Nat → Nat → Nat) (cyI : ClassId) (q0 : Nat) (q1 : Nat) (q2 : Nat) (q3 : Nat) (q4 : Nat) (q5 : Nat) (q6 : Nat) (svc : Int32) (tl : Int32) (cde : Int32) (mm : Int32) (mr : Int32) (ati : Int32) (ors : Int32) (zs : Nat → Int32) (zv : Nat → Int32) (zt : Nat → Int32) (zp : Nat → Int32) (zm : Nat → Int32) (zk : Nat → Int32) (sl : Int32) (hG : mG zs) : Met l yX9_utilizationAt wqX9_utilizationAt ({ frames := 4, cells := 0, slots := 0, locals := 91 } : Room) (va_Pc [.ref q0, .int sl] (pB (dC, dI) [(q0, .inr (9, [.ref q1, .ref q2, .int svc, .ref q3, .int tl, .int cde, .int mm, .int mr, .ref q4, .int ati, .int ors, .ref q5, .ref q6])), (q1, .inl (cyI, 246, .inl zs)), (q2, .inl (cyI, 984, .inl zv)), (q3, .inl (cyI, 80, .inl zt)), (q4, .inl (cyI, 5, .inl zp)), (q5, .inl (cyI, 40, .inl zm)), (q6, .inl (cyI, 40, .inl zk))] [(cyI, .int)] eM)) (vp_Si (fun r => r = (m_utilizationAt mm mr zs sl))) 0 0 aF := by
  refine Met.ofW (cc := cX9_utilizationAt) (maxL := 2) (ret := (some .int)) (by decide) rfl ?_
  intro p e s m args below meth c s₁ B hml hv
  obtain ⟨rfl, hP, hK, he⟩ := hv
  have hx := B.exec
  have hb := B.bytes
  have hr := B.returns
  have hts := atoms_spec (ws := wqX9_utilizationAt) B.pre
  have hown : s.vm.findClass RX9 = some m.cls := findClass_of_methodNamed B.named
  have hlocks := B.notSynchronized
  have w_0 := hts (Cond.fieldLink RX9 7 "CraneLimiterModel" "s" "[I") (List.mem_cons_of_mem _ b_93)
  have w_1 := hts (Cond.fieldLink RX9 81 "CraneLimiterModel" "measuredRadius" "I") (List.mem_cons_of_mem _ b_683)
  have i_X9 : ∀ w ∈ u_ws RX9 TX9 13, w ∈ wqX9_utilizationAt := fun w h => List.mem_cons_of_mem _ (bX9 w h)
  have hS : va_S aF s.heap s.heap [] := va_S.rf
  have hP : va_P (dC, dI) vwCl [(q0, .inr (9, [.ref q1, .ref q2, .int svc, .ref q3, .int tl, .int cde, .int mm, .int mr, .ref q4, .int ati, .int ors, .ref q5, .ref q6])), (q1, .inl (cyI, 246, .inl zs)), (q2, .inl (cyI, 984, .inl zv)), (q3, .inl (cyI, 80, .inl zt)), (q4, .inl (cyI, 5, .inl zp)), (q5, .inl (cyI, 40, .inl zm)), (q6, .inl (cyI, 40, .inl zk))] s.heap := hP
  have hl := lv_entry ([.ref q0, .int sl] : List Value) (n := 2) (Nat.le_of_ble_eq_true rfl)
  rw [lg_entry_eq]
  generalize (lg_sl ([.ref q0, .int sl] : List Value) ++ List.replicate (2 - (lg_sl ([.ref q0, .int sl] : List Value)).length) Slot.unset).toArray = ls at hl ⊢
  have hl : lv_has ls 2 [(0, .ref q0), (1, .int sl)] := hl
  have hE : m_utilizationAt mm mr zs sl = m_utilizationAt mm mr zs sl := rfl
  refine lv_aload_n hx hb dX9_utilizationAt_0 rfl (lv_at hl 0 rfl) ?_
  refine vp_callSi (W.runV (As := []) (rest := []) ⟨hx, hb, hml, hown, hts⟩ (c_X9_netLoad l dC dI cyI q0 q1 q2 q3 q4 q5 q6 svc tl cde mm mr ati ors zs zv zt zp zm zk) (cwV 0 hts (gBV b_705 b_706 b_707 b_5 b_708) rfl rfl rfl (by decide +kernel) ⟨Nat.le_of_ble_eq_true rfl, Nat.le_of_ble_eq_true rfl⟩) (pre_v eM_ok he hS hP hK 0 rfl rfl rfl) rfl rfl hl.1 rfl (lv_room (Nat.le_of_ble_eq_true rfl)) dX9_utilizationAt_1 ⟨Nat.zero_le _, Nat.zero_le _⟩) (fun r_1 hr_1 => ?_)
  have hE := hE.trans (spLet_eq hr_1)
  refine lv_aload_n hx hb dX9_utilizationAt_4 rfl (lv_at hl 0 rfl) ?_
  refine lv_aload_n hx hb dX9_utilizationAt_5 rfl (lv_at hl 0 rfl) ?_
  refine va_get (D := (dC, dI)) (ci := 9) (v := .ref q1) (C := RX9) (T := TX9) (N := 13) hx hb hts i_X9 hown hK hP 0 rfl rfl 0 (by decide) w_0 (fun _ h9 => h9) rfl dX9_utilizationAt_6 ?_
  refine lv_iconst (v := 0) hx hb dX9_utilizationAt_9 (by decide) ?_
  refine ra_ld hx hb hK hP 1 0 rfl rfl (j := 0) (rfl : (0 : Int32) = nI 0) (by omega) (by omega) dX9_utilizationAt_10 ?_
  refine lv_aload_n hx hb dX9_utilizationAt_11 rfl (lv_at hl 0 rfl) ?_
  refine va_get (D := (dC, dI)) (ci := 9) (v := .int mr) (C := RX9) (T := TX9) (N := 13) hx hb hts i_X9 hown hK hP 0 rfl rfl 7 (by decide) w_1 (fun _ h9 => h9) rfl dX9_utilizationAt_12 ?_
  refine lv_iload_n hx hb dX9_utilizationAt_15 rfl (lv_at hl 1 rfl) ?_
  refine vp_callSi (W.runV (As := [.int (zs 0), .int mr, .int sl]) (rest := [.int r_1]) ⟨hx, hb, hml, hown, hts⟩ (c_X9_ratedFor l dC dI cyI q0 q1 q2 q3 q4 q5 q6 svc tl cde mm mr ati ors zs zv zt zp zm zk (zs 0) mr sl hG) (cwV 3 hts (gBV b_709 b_710 b_711 b_5 b_712) rfl rfl rfl (by decide +kernel) ⟨Nat.le_of_ble_eq_true rfl, Nat.le_of_ble_eq_true rfl⟩) (pre_v eM_ok he hS hP hK 0 rfl rfl rfl) rfl rfl hl.1 rfl (lv_room (Nat.le_of_ble_eq_true rfl)) dX9_utilizationAt_16 ⟨Nat.zero_le _, Nat.zero_le _⟩) (fun r_2 hr_2 => ?_)
  have hE := hE.trans (spLet_eq hr_2)
  refine vp_callSi (W.runS (As := [.int r_1, .int r_2]) (rest := []) ⟨hx, hb, hml, hown, hts⟩ (c_X9_utilizationOf l dC dI cyI r_1 r_2) (va_cwS 2 hts (gBS b_728 b_729 b_5 b_730) rfl rfl rfl (by decide +kernel) ⟨Nat.le_of_ble_eq_true rfl, Nat.le_of_ble_eq_true rfl⟩) (pre_s eM_ok he hS (hP.sub (ws' := []) [] rfl) (hK.sub (tys' := []) [] rfl)) rfl rfl hl.1 rfl (lv_room (Nat.le_of_ble_eq_true rfl)) dX9_utilizationAt_19 ⟨Nat.zero_le _, Nat.zero_le _⟩) (fun r_3 hr_3 => ?_)
  have hE := hE.trans (spLet_eq hr_3)
  exact W.iret (v := r_3) hx hb hr (fun t ht hW => ⟨_, rfl, hE.symm, ht⟩) (fun q h => by cases h) dX9_utilizationAt_22
def m_utilization (mr : Int32) (zs : Nat → Int32) : Int32 × Int32 × Int32 :=
  spLet (m_measure mr zs) (fun u_1 => spLet (m_utilizationAt (u_1.1) (u_1.2) zs (zs 2)) (fun r_2 => (r_2, (u_1.1), (u_1.2))))
set_option maxHeartbeats 1000000 in
set_option maxRecDepth 100000 in
theorem c_X9_utilization (l : Launch) (dC : Nat → ClassId) (dI : Nat → Nat → Nat) (cyI : ClassId) (sz : Nat) (q0 : Nat) (q1 : Nat) (q2 : Nat) (q3 : Nat) (q4 : Nat) (q5 : Nat) (q6 : Nat) (svc : Int32) (tl : Int32) (cde : Int32) (mm : Int32) (mr : Int32) (ati : Int32) (ors : Int32) (zs : Nat → Int32) (zv : Nat → Int32) (zt : Nat → Int32) (zp : Nat → Int32) (zm : Nat → Int32) (zk : Nat → Int32) (hG : mG zs) : Met l yX9_utilization wqX9_utilization ({ frames := 7, cells := 0, slots := 0, locals := 149 } : Room) (va_Pc [.ref q0] (pC (dC, dI) [(q0, .inr (9, [.ref q1, .ref q2, .int svc, .ref q3, .int tl, .int cde, .int mm, .int mr, .ref q4, .int ati, .int ors, .ref q5, .ref q6])), (q1, .inl (cyI, 246, .inl zs)), (q2, .inl (cyI, 984, .inl zv)), (q3, .inl (cyI, 80, .inl zt)), (q4, .inl (cyI, 5, .inl zp)), (q5, .inl (cyI, 40, .inl zm)), (q6, .inl (cyI, 40, .inl zk))] [(cyI, .int)] eM sz)) (va_Qi (fun (r : Int32) (u : Int32 × Int32 × Int32) => u = (m_utilization mr zs) ∧ r = u.1) (fun (u : Int32 × Int32 × Int32) t => va_P (dC, dI) vwCl [(q0, .inr (9, [.ref q1, .ref q2, .int svc, .ref q3, .int tl, .int cde, .int (u.2.1), .int (u.2.2), .ref q4, .int ati, .int ors, .ref q5, .ref q6])), (q1, .inl (cyI, 246, .inl zs)), (q2, .inl (cyI, 984, .inl zv)), (q3, .inl (cyI, 80, .inl zt)), (q4, .inl (cyI, 5, .inl zp)), (q5, .inl (cyI, 40, .inl zm)), (q6, .inl (cyI, 40, .inl zk))] t.heap ∧ va_D (va_A [(q0, .inr (9, [.ref q1, .ref q2, .int svc, .ref q3, .int tl, .int cde, .int mm, .int mr, .ref q4, .int ati, .int ors, .ref q5, .ref q6])), (q1, .inl (cyI, 246, .inl zs)), (q2, .inl (cyI, 984, .inl zv)), (q3, .inl (cyI, 80, .inl zt)), (q4, .inl (cyI, 5, .inl zp)), (q5, .inl (cyI, 40, .inl zm)), (q6, .inl (cyI, 40, .inl zk))] sz) [(q0, .inr (9, [.ref q1, .ref q2, .int svc, .ref q3, .int tl, .int cde, .int (u.2.1), .int (u.2.2), .ref q4, .int ati, .int ors, .ref q5, .ref q6])), (q1, .inl (cyI, 246, .inl zs)), (q2, .inl (cyI, 984, .inl zv)), (q3, .inl (cyI, 80, .inl zt)), (q4, .inl (cyI, 5, .inl zp)), (q5, .inl (cyI, 40, .inl zm)), (q6, .inl (cyI, 40, .inl zk))]) (va_A [(q0, .inr (9, [.ref q1, .ref q2, .int svc, .ref q3, .int tl, .int cde, .int mm, .int mr, .ref q4, .int ati, .int ors, .ref q5, .ref q6])), (q1, .inl (cyI, 246, .inl zs)), (q2, .inl (cyI, 984, .inl zv)), (q3, .inl (cyI, 80, .inl zt)), (q4, .inl (cyI, 5, .inl zp)), (q5, .inl (cyI, 40, .inl zm)), (q6, .inl (cyI, 40, .inl zk))] sz)) 0 0 (va_A [(q0, .inr (9, [.ref q1, .ref q2, .int svc, .ref q3, .int tl, .int cde, .int mm, .int mr, .ref q4, .int ati, .int ors, .ref q5, .ref q6])), (q1, .inl (cyI, 246, .inl zs)), (q2, .inl (cyI, 984, .inl zv)), (q3, .inl (cyI, 80, .inl zt)), (q4, .inl (cyI, 5, .inl zp)), (q5, .inl (cyI, 40, .inl zm)), (q6, .inl (cyI, 40, .inl zk))] sz) := by
  refine Met.ofW (cc := cX9_utilization) (maxL := 1) (ret := (some .int)) (by decide) rfl ?_
  intro p e s m args below meth c s₁ B hml hv
  obtain ⟨rfl, hsz, hP, hK, hD0, he⟩ := hv
  have hx := B.exec
  have hb := B.bytes
  have hr := B.returns
  have hts := atoms_spec (ws := wqX9_utilization) B.pre
  have hown : s.vm.findClass RX9 = some m.cls := findClass_of_methodNamed B.named
  have hlocks := B.notSynchronized
  have w_0 := hts (Cond.fieldLink RX9 7 "CraneLimiterModel" "s" "[I") (List.mem_cons_of_mem _ b_93)
  have i_X9 : ∀ w ∈ u_ws RX9 TX9 13, w ∈ wqX9_utilization := fun w h => List.mem_cons_of_mem _ (bX9 w h)
  subst hsz
  have hD := hD0.self (sz := s.heap.size)
  generalize hAe : va_A [(q0, .inr (9, [.ref q1, .ref q2, .int svc, .ref q3, .int tl, .int cde, .int mm, .int mr, .ref q4, .int ati, .int ors, .ref q5, .ref q6])), (q1, .inl (cyI, 246, .inl zs)), (q2, .inl (cyI, 984, .inl zv)), (q3, .inl (cyI, 80, .inl zt)), (q4, .inl (cyI, 5, .inl zp)), (q5, .inl (cyI, 40, .inl zm)), (q6, .inl (cyI, 40, .inl zk))] s.heap.size = A at hD he ⊢
  have hA : ∀ q : Nat, s.heap.size ≤ q → A q := fun q h => by rw [← hAe]; exact Or.inr h
  have hS : va_S A s.heap s.heap [] := va_S.rf
  have hP : va_P (dC, dI) vwCl [(q0, .inr (9, [.ref q1, .ref q2, .int svc, .ref q3, .int tl, .int cde, .int mm, .int mr, .ref q4, .int ati, .int ors, .ref q5, .ref q6])), (q1, .inl (cyI, 246, .inl zs)), (q2, .inl (cyI, 984, .inl zv)), (q3, .inl (cyI, 80, .inl zt)), (q4, .inl (cyI, 5, .inl zp)), (q5, .inl (cyI, 40, .inl zm)), (q6, .inl (cyI, 40, .inl zk))] s.heap := hP
  have hl := lv_entry ([.ref q0] : List Value) (n := 1) (Nat.le_of_ble_eq_true rfl)
  rw [lg_entry_eq]
  generalize (lg_sl ([.ref q0] : List Value) ++ List.replicate (1 - (lg_sl ([.ref q0] : List Value)).length) Slot.unset).toArray = ls at hl ⊢
  have hl : lv_has ls 1 [(0, .ref q0)] := hl
  have hE : m_utilization mr zs = m_utilization mr zs := rfl
  refine lv_aload_n hx hb dX9_utilization_0 rfl (lv_at hl 0 rfl) ?_
  refine mj_v (wr := []) (va_runV (As := []) (rest := []) ⟨hx, hb, hml, hown, hts⟩ (c_X9_measure l dC dI cyI s.heap.size q0 q1 q2 q3 q4 q5 q6 svc tl cde mm mr ati ors zs zv zt zp zm zk hG.arms) (cwV 0 hts (gBV b_677 b_678 b_679 b_5 b_680) rfl rfl rfl (by decide +kernel) ⟨Nat.le_of_ble_eq_true rfl, Nat.le_of_ble_eq_true rfl⟩) (prm_v eM_ok he hS hP hD hK (va_free (wc := [(q0, .inr (9, [.ref q1, .ref q2, .int svc, .ref q3, .int tl, .int cde, .int mm, .int mr, .ref q4, .int ati, .int ors, .ref q5, .ref q6])), (q1, .inl (cyI, 246, .inl zs)), (q2, .inl (cyI, 984, .inl zv)), (q3, .inl (cyI, 80, .inl zt)), (q4, .inl (cyI, 5, .inl zp)), (q5, .inl (cyI, 40, .inl zm)), (q6, .inl (cyI, 40, .inl zk))]) hD hS hA [0, 1, 2, 3, 4, 5, 6] rfl) 0 rfl rfl rfl) rfl rfl hl.1 rfl (lv_room (Nat.le_of_ble_eq_true rfl)) dX9_utilization_1 ⟨Nat.le_of_ble_eq_true rfl, Nat.le_of_ble_eq_true rfl⟩) hP hD hS hA [0, 1, 2, 3, 4, 5, 6] [] rfl rfl (by decide) (by decide) (fun u_1 H locs hw hP hD hS => ?_)
  have hu_1 := hw
  have hE := hE.trans (spLet_eq hu_1)
  have hP : va_P (dC, dI) vwCl [(q0, .inr (9, [.ref q1, .ref q2, .int svc, .ref q3, .int tl, .int cde, .int (u_1.1), .int (u_1.2), .ref q4, .int ati, .int ors, .ref q5, .ref q6])), (q1, .inl (cyI, 246, .inl zs)), (q2, .inl (cyI, 984, .inl zv)), (q3, .inl (cyI, 80, .inl zt)), (q4, .inl (cyI, 5, .inl zp)), (q5, .inl (cyI, 40, .inl zm)), (q6, .inl (cyI, 40, .inl zk))] H := hP
  have hD : va_D A [(q0, .inr (9, [.ref q1, .ref q2, .int svc, .ref q3, .int tl, .int cde, .int (u_1.1), .int (u_1.2), .ref q4, .int ati, .int ors, .ref q5, .ref q6])), (q1, .inl (cyI, 246, .inl zs)), (q2, .inl (cyI, 984, .inl zv)), (q3, .inl (cyI, 80, .inl zt)), (q4, .inl (cyI, 5, .inl zp)), (q5, .inl (cyI, 40, .inl zm)), (q6, .inl (cyI, 40, .inl zk))] := hD
  refine lv_aload_n hx hb dX9_utilization_4 rfl (lv_at hl 0 rfl) ?_
  refine lv_aload_n hx hb dX9_utilization_5 rfl (lv_at hl 0 rfl) ?_
  refine va_get (D := (dC, dI)) (ci := 9) (v := .ref q1) (C := RX9) (T := TX9) (N := 13) hx hb hts i_X9 hown hK hP 0 rfl rfl 0 (by decide) w_0 (fun _ h9 => h9) rfl dX9_utilization_6 ?_
  refine lv_iconst (v := 2) hx hb dX9_utilization_9 (by decide) ?_
  refine ra_ld hx hb hK hP 1 0 rfl rfl (j := 2) (rfl : (2 : Int32) = nI 2) (by omega) (by omega) dX9_utilization_10 ?_
  refine vp_callSi (W.runV (As := [.int (zs 2)]) (rest := []) ⟨hx, hb, hml, hown, hts⟩ (c_X9_utilizationAt l dC dI cyI q0 q1 q2 q3 q4 q5 q6 svc tl cde (u_1.1) (u_1.2) ati ors zs zv zt zp zm zk (zs 2) hG) (cwV 1 hts (gBV b_701 b_702 b_703 b_5 b_704) rfl rfl rfl (by decide +kernel) ⟨Nat.le_of_ble_eq_true rfl, Nat.le_of_ble_eq_true rfl⟩) (pre_v eM_ok he hS hP hK 0 rfl rfl rfl) rfl rfl hl.1 rfl (lv_room (Nat.le_of_ble_eq_true rfl)) dX9_utilization_11 ⟨Nat.zero_le _, Nat.zero_le _⟩) (fun r_2 hr_2 => ?_)
  have hE := hE.trans (spLet_eq hr_2)
  exact W.iret (v := r_2) hx hb hr (fun t h9 hW => ⟨⟨r_2, ((r_2, (u_1.1), (u_1.2)) : Int32 × Int32 × Int32), rfl, ⟨hE.symm, rfl⟩, by rw [h9]; exact hP, hD⟩, hS.F h9⟩) hS.2.2 dX9_utilization_14
def m_isWorseZone (zs : Nat → Int32) (zp : Nat → Int32) (mo : Int32) : Int32 × (Nat → Int32) :=
  spLet (m_violation zs) (fun r_1 => spLet (m_remember zs zp) (fun u_2 => spLet (m_carry zs mo) (fun u_3 => spLet (m_violation u_3) (fun r_4 => spLet (m_takeBack u_3 u_2) (fun u_5 => if r_4 ≤ r_1 then (((0 : Int32), u_2)) else (((1 : Int32), u_2)))))))
set_option maxHeartbeats 1000000 in
set_option maxRecDepth 100000 in
theorem c_X9_isWorseZone (l : Launch) (dC : Nat → ClassId) (dI : Nat → Nat → Nat) (cyI : ClassId) (sz : Nat) (q0 : Nat) (q1 : Nat) (q2 : Nat) (q3 : Nat) (q4 : Nat) (q5 : Nat) (q6 : Nat) (svc : Int32) (tl : Int32) (cde : Int32) (mm : Int32) (mr : Int32) (ati : Int32) (ors : Int32) (zs : Nat → Int32) (zv : Nat → Int32) (zt : Nat → Int32) (zp : Nat → Int32) (zm : Nat → Int32) (zk : Nat → Int32) (mo : Int32) (hG : mG zs) : Met l yX9_isWorseZone wqX9_isWorseZone ({ frames := 5, cells := 0, slots := 0, locals := 108 } : Room) (va_Pc [.ref q0, .int mo] (pC (dC, dI) [(q0, .inr (9, [.ref q1, .ref q2, .int svc, .ref q3, .int tl, .int cde, .int mm, .int mr, .ref q4, .int ati, .int ors, .ref q5, .ref q6])), (q1, .inl (cyI, 246, .inl zs)), (q2, .inl (cyI, 984, .inl zv)), (q3, .inl (cyI, 80, .inl zt)), (q4, .inl (cyI, 5, .inl zp)), (q5, .inl (cyI, 40, .inl zm)), (q6, .inl (cyI, 40, .inl zk))] [(cyI, .int)] eM sz)) (va_Qi (fun (r : Int32) (u : Int32 × (Nat → Int32)) => u = (m_isWorseZone zs zp mo) ∧ r = u.1 ∧ (r = 0 ∨ r = 1)) (fun (u : Int32 × (Nat → Int32)) t => va_P (dC, dI) vwCl [(q0, .inr (9, [.ref q1, .ref q2, .int svc, .ref q3, .int tl, .int cde, .int mm, .int mr, .ref q4, .int ati, .int ors, .ref q5, .ref q6])), (q1, .inl (cyI, 246, .inl zs)), (q2, .inl (cyI, 984, .inl zv)), (q3, .inl (cyI, 80, .inl zt)), (q4, .inl (cyI, 5, .inl (u.2))), (q5, .inl (cyI, 40, .inl zm)), (q6, .inl (cyI, 40, .inl zk))] t.heap ∧ va_D (va_A [(q0, .inr (9, [.ref q1, .ref q2, .int svc, .ref q3, .int tl, .int cde, .int mm, .int mr, .ref q4, .int ati, .int ors, .ref q5, .ref q6])), (q1, .inl (cyI, 246, .inl zs)), (q2, .inl (cyI, 984, .inl zv)), (q3, .inl (cyI, 80, .inl zt)), (q4, .inl (cyI, 5, .inl zp)), (q5, .inl (cyI, 40, .inl zm)), (q6, .inl (cyI, 40, .inl zk))] sz) [(q0, .inr (9, [.ref q1, .ref q2, .int svc, .ref q3, .int tl, .int cde, .int mm, .int mr, .ref q4, .int ati, .int ors, .ref q5, .ref q6])), (q1, .inl (cyI, 246, .inl zs)), (q2, .inl (cyI, 984, .inl zv)), (q3, .inl (cyI, 80, .inl zt)), (q4, .inl (cyI, 5, .inl (u.2))), (q5, .inl (cyI, 40, .inl zm)), (q6, .inl (cyI, 40, .inl zk))]) (va_A [(q0, .inr (9, [.ref q1, .ref q2, .int svc, .ref q3, .int tl, .int cde, .int mm, .int mr, .ref q4, .int ati, .int ors, .ref q5, .ref q6])), (q1, .inl (cyI, 246, .inl zs)), (q2, .inl (cyI, 984, .inl zv)), (q3, .inl (cyI, 80, .inl zt)), (q4, .inl (cyI, 5, .inl zp)), (q5, .inl (cyI, 40, .inl zm)), (q6, .inl (cyI, 40, .inl zk))] sz)) 0 0 (va_A [(q0, .inr (9, [.ref q1, .ref q2, .int svc, .ref q3, .int tl, .int cde, .int mm, .int mr, .ref q4, .int ati, .int ors, .ref q5, .ref q6])), (q1, .inl (cyI, 246, .inl zs)), (q2, .inl (cyI, 984, .inl zv)), (q3, .inl (cyI, 80, .inl zt)), (q4, .inl (cyI, 5, .inl zp)), (q5, .inl (cyI, 40, .inl zm)), (q6, .inl (cyI, 40, .inl zk))] sz) := by
  refine Met.ofW (cc := cX9_isWorseZone) (maxL := 4) (ret := (some .boolean)) (by decide) rfl ?_
  intro p e s m args below meth c s₁ B hml hv
  obtain ⟨rfl, hsz, hP, hK, hD0, he⟩ := hv
  have hx := B.exec
  have hb := B.bytes
  have hr := B.returns
  have hts := atoms_spec (ws := wqX9_isWorseZone) B.pre
  have hown : s.vm.findClass RX9 = some m.cls := findClass_of_methodNamed B.named
  have hlocks := B.notSynchronized
  subst hsz
  have hD := hD0.self (sz := s.heap.size)
  generalize hAe : va_A [(q0, .inr (9, [.ref q1, .ref q2, .int svc, .ref q3, .int tl, .int cde, .int mm, .int mr, .ref q4, .int ati, .int ors, .ref q5, .ref q6])), (q1, .inl (cyI, 246, .inl zs)), (q2, .inl (cyI, 984, .inl zv)), (q3, .inl (cyI, 80, .inl zt)), (q4, .inl (cyI, 5, .inl zp)), (q5, .inl (cyI, 40, .inl zm)), (q6, .inl (cyI, 40, .inl zk))] s.heap.size = A at hD he ⊢
  have hA : ∀ q : Nat, s.heap.size ≤ q → A q := fun q h => by rw [← hAe]; exact Or.inr h
  have hS : va_S A s.heap s.heap [] := va_S.rf
  have hP : va_P (dC, dI) vwCl [(q0, .inr (9, [.ref q1, .ref q2, .int svc, .ref q3, .int tl, .int cde, .int mm, .int mr, .ref q4, .int ati, .int ors, .ref q5, .ref q6])), (q1, .inl (cyI, 246, .inl zs)), (q2, .inl (cyI, 984, .inl zv)), (q3, .inl (cyI, 80, .inl zt)), (q4, .inl (cyI, 5, .inl zp)), (q5, .inl (cyI, 40, .inl zm)), (q6, .inl (cyI, 40, .inl zk))] s.heap := hP
  have hl := lv_entry ([.ref q0, .int mo] : List Value) (n := 4) (Nat.le_of_ble_eq_true rfl)
  rw [lg_entry_eq]
  generalize (lg_sl ([.ref q0, .int mo] : List Value) ++ List.replicate (4 - (lg_sl ([.ref q0, .int mo] : List Value)).length) Slot.unset).toArray = ls at hl ⊢
  have hl : lv_has ls 4 [(0, .ref q0), (1, .int mo)] := hl
  have hE : m_isWorseZone zs zp mo = m_isWorseZone zs zp mo := rfl
  refine lv_aload_n hx hb dX9_isWorseZone_0 rfl (lv_at hl 0 rfl) ?_
  refine vp_callSi (W.runV (As := []) (rest := []) ⟨hx, hb, hml, hown, hts⟩ (c_X9_violation l dC dI cyI q0 q1 q2 q3 q4 q5 q6 svc tl cde mm mr ati ors zs zv zt zp zm zk (hG.zones).1 (hG.zones).2) (cwV 0 hts (gBV b_376 b_377 b_378 b_5 b_379) rfl rfl rfl (by decide +kernel) ⟨Nat.le_of_ble_eq_true rfl, Nat.le_of_ble_eq_true rfl⟩) (pre_v eM_ok he hS hP hK 0 rfl rfl rfl) rfl rfl hl.1 rfl (lv_room (Nat.le_of_ble_eq_true rfl)) dX9_isWorseZone_1 ⟨Nat.zero_le _, Nat.zero_le _⟩) (fun r_1 hr_1 => ?_)
  have hE := hE.trans (spLet_eq hr_1)
  refine lv_istore_n (lv' := [(2, .int r_1), (0, .ref q0), (1, .int mo)]) hx hb dX9_isWorseZone_4 rfl hl (by decide) rfl (fun ls hl => ?_)
  refine lv_aload_n hx hb dX9_isWorseZone_5 rfl (lv_at hl 1 rfl) ?_
  refine mj_v (wr := []) (va_runV (As := []) (rest := []) ⟨hx, hb, hml, hown, hts⟩ (c_X9_remember l dC dI cyI s.heap.size q0 q1 q2 q3 q4 q5 q6 svc tl cde mm mr ati ors zs zv zt zp zm zk) (cwV 0 hts (gBV b_653 b_654 b_655 b_5 b_656) rfl rfl rfl (by decide +kernel) ⟨Nat.le_of_ble_eq_true rfl, Nat.le_of_ble_eq_true rfl⟩) (prm_v eM_ok he hS hP hD hK (va_free (wc := [(q0, .inr (9, [.ref q1, .ref q2, .int svc, .ref q3, .int tl, .int cde, .int mm, .int mr, .ref q4, .int ati, .int ors, .ref q5, .ref q6])), (q1, .inl (cyI, 246, .inl zs)), (q2, .inl (cyI, 984, .inl zv)), (q3, .inl (cyI, 80, .inl zt)), (q4, .inl (cyI, 5, .inl zp)), (q5, .inl (cyI, 40, .inl zm)), (q6, .inl (cyI, 40, .inl zk))]) hD hS hA [0, 1, 2, 3, 4, 5, 6] rfl) 0 rfl rfl rfl) rfl rfl hl.1 rfl (lv_room (Nat.le_of_ble_eq_true rfl)) dX9_isWorseZone_6 ⟨Nat.le_of_ble_eq_true rfl, Nat.le_of_ble_eq_true rfl⟩) hP hD hS hA [0, 1, 2, 3, 4, 5, 6] [] rfl rfl (by decide) (by decide) (fun u_2 H locs hw hP hD hS => ?_)
  have hu_2 := hw
  have hE := hE.trans (spLet_eq hu_2)
  have hP : va_P (dC, dI) vwCl [(q0, .inr (9, [.ref q1, .ref q2, .int svc, .ref q3, .int tl, .int cde, .int mm, .int mr, .ref q4, .int ati, .int ors, .ref q5, .ref q6])), (q1, .inl (cyI, 246, .inl zs)), (q2, .inl (cyI, 984, .inl zv)), (q3, .inl (cyI, 80, .inl zt)), (q4, .inl (cyI, 5, .inl u_2)), (q5, .inl (cyI, 40, .inl zm)), (q6, .inl (cyI, 40, .inl zk))] H := hP
  have hD : va_D A [(q0, .inr (9, [.ref q1, .ref q2, .int svc, .ref q3, .int tl, .int cde, .int mm, .int mr, .ref q4, .int ati, .int ors, .ref q5, .ref q6])), (q1, .inl (cyI, 246, .inl zs)), (q2, .inl (cyI, 984, .inl zv)), (q3, .inl (cyI, 80, .inl zt)), (q4, .inl (cyI, 5, .inl u_2)), (q5, .inl (cyI, 40, .inl zm)), (q6, .inl (cyI, 40, .inl zk))] := hD
  refine lv_aload_n hx hb dX9_isWorseZone_9 rfl (lv_at hl 1 rfl) ?_
  refine lv_iload_n hx hb dX9_isWorseZone_10 rfl (lv_at hl 2 rfl) ?_
  refine mj_v (wr := []) (va_runV (As := [.int mo]) (rest := []) ⟨hx, hb, hml, hown, hts⟩ (c_X9_carry l dC dI cyI H.size q0 q1 q2 q3 q4 q5 q6 svc tl cde mm mr ati ors zs zv zt u_2 zm zk mo) (cwV 1 hts (gBV b_657 b_658 b_659 b_5 b_660) rfl rfl rfl (by decide +kernel) ⟨Nat.le_of_ble_eq_true rfl, Nat.le_of_ble_eq_true rfl⟩) (prm_v eM_ok he hS hP hD hK (va_free (wc := [(q0, .inr (9, [.ref q1, .ref q2, .int svc, .ref q3, .int tl, .int cde, .int mm, .int mr, .ref q4, .int ati, .int ors, .ref q5, .ref q6])), (q1, .inl (cyI, 246, .inl zs)), (q2, .inl (cyI, 984, .inl zv)), (q3, .inl (cyI, 80, .inl zt)), (q4, .inl (cyI, 5, .inl u_2)), (q5, .inl (cyI, 40, .inl zm)), (q6, .inl (cyI, 40, .inl zk))]) hD hS hA [0, 1, 2, 3, 4, 5, 6] rfl) 0 rfl rfl rfl) rfl rfl hl.1 rfl (lv_room (Nat.le_of_ble_eq_true rfl)) dX9_isWorseZone_11 ⟨Nat.le_of_ble_eq_true rfl, Nat.le_of_ble_eq_true rfl⟩) hP hD hS hA [0, 1, 2, 3, 4, 5, 6] [] rfl rfl (by decide) (by decide) (fun u_3 H locs hw hP hD hS => ?_)
  have hu_3 := hw
  have hE := hE.trans (spLet_eq hu_3)
  have hP : va_P (dC, dI) vwCl [(q0, .inr (9, [.ref q1, .ref q2, .int svc, .ref q3, .int tl, .int cde, .int mm, .int mr, .ref q4, .int ati, .int ors, .ref q5, .ref q6])), (q1, .inl (cyI, 246, .inl u_3)), (q2, .inl (cyI, 984, .inl zv)), (q3, .inl (cyI, 80, .inl zt)), (q4, .inl (cyI, 5, .inl u_2)), (q5, .inl (cyI, 40, .inl zm)), (q6, .inl (cyI, 40, .inl zk))] H := hP
  have hD : va_D A [(q0, .inr (9, [.ref q1, .ref q2, .int svc, .ref q3, .int tl, .int cde, .int mm, .int mr, .ref q4, .int ati, .int ors, .ref q5, .ref q6])), (q1, .inl (cyI, 246, .inl u_3)), (q2, .inl (cyI, 984, .inl zv)), (q3, .inl (cyI, 80, .inl zt)), (q4, .inl (cyI, 5, .inl u_2)), (q5, .inl (cyI, 40, .inl zm)), (q6, .inl (cyI, 40, .inl zk))] := hD
  refine lv_aload_n hx hb dX9_isWorseZone_14 rfl (lv_at hl 1 rfl) ?_
  refine vp_callSi (W.runV (As := []) (rest := []) ⟨hx, hb, hml, hown, hts⟩ (c_X9_violation l dC dI cyI q0 q1 q2 q3 q4 q5 q6 svc tl cde mm mr ati ors u_3 zv zt u_2 zm zk (hu_3 ▸ (carry_G hG mo).zones).1 (hu_3 ▸ (carry_G hG mo).zones).2) (cwV 0 hts (gBV b_376 b_377 b_378 b_5 b_379) rfl rfl rfl (by decide +kernel) ⟨Nat.le_of_ble_eq_true rfl, Nat.le_of_ble_eq_true rfl⟩) (pre_v eM_ok he hS hP hK 0 rfl rfl rfl) rfl rfl hl.1 rfl (lv_room (Nat.le_of_ble_eq_true rfl)) dX9_isWorseZone_15 ⟨Nat.zero_le _, Nat.zero_le _⟩) (fun r_4 hr_4 => ?_)
  have hE := hE.trans (spLet_eq hr_4)
  refine lv_istore_n (lv' := [(3, .int r_4), (2, .int r_1), (0, .ref q0), (1, .int mo)]) hx hb dX9_isWorseZone_18 rfl hl (by decide) rfl (fun ls hl => ?_)
  refine lv_aload_n hx hb dX9_isWorseZone_19 rfl (lv_at hl 2 rfl) ?_
  refine mj_v (wr := []) (va_runV (As := []) (rest := []) ⟨hx, hb, hml, hown, hts⟩ (c_X9_takeBack l dC dI cyI H.size q0 q1 q2 q3 q4 q5 q6 svc tl cde mm mr ati ors u_3 zv zt u_2 zm zk) (cwV 0 hts (gBV b_665 b_666 b_667 b_5 b_668) rfl rfl rfl (by decide +kernel) ⟨Nat.le_of_ble_eq_true rfl, Nat.le_of_ble_eq_true rfl⟩) (prm_v eM_ok he hS hP hD hK (va_free (wc := [(q0, .inr (9, [.ref q1, .ref q2, .int svc, .ref q3, .int tl, .int cde, .int mm, .int mr, .ref q4, .int ati, .int ors, .ref q5, .ref q6])), (q1, .inl (cyI, 246, .inl u_3)), (q2, .inl (cyI, 984, .inl zv)), (q3, .inl (cyI, 80, .inl zt)), (q4, .inl (cyI, 5, .inl u_2)), (q5, .inl (cyI, 40, .inl zm)), (q6, .inl (cyI, 40, .inl zk))]) hD hS hA [0, 1, 2, 3, 4, 5, 6] rfl) 0 rfl rfl rfl) rfl rfl hl.1 rfl (lv_room (Nat.le_of_ble_eq_true rfl)) dX9_isWorseZone_20 ⟨Nat.le_of_ble_eq_true rfl, Nat.le_of_ble_eq_true rfl⟩) hP hD hS hA [0, 1, 2, 3, 4, 5, 6] [] rfl rfl (by decide) (by decide) (fun u_5 H locs hw hP hD hS => ?_)
  have hu_5 := hw
  have hE := hE.trans (spLet_eq hu_5)
  have hP : va_P (dC, dI) vwCl [(q0, .inr (9, [.ref q1, .ref q2, .int svc, .ref q3, .int tl, .int cde, .int mm, .int mr, .ref q4, .int ati, .int ors, .ref q5, .ref q6])), (q1, .inl (cyI, 246, .inl u_5)), (q2, .inl (cyI, 984, .inl zv)), (q3, .inl (cyI, 80, .inl zt)), (q4, .inl (cyI, 5, .inl u_2)), (q5, .inl (cyI, 40, .inl zm)), (q6, .inl (cyI, 40, .inl zk))] H := hP
  have hD : va_D A [(q0, .inr (9, [.ref q1, .ref q2, .int svc, .ref q3, .int tl, .int cde, .int mm, .int mr, .ref q4, .int ati, .int ors, .ref q5, .ref q6])), (q1, .inl (cyI, 246, .inl u_5)), (q2, .inl (cyI, 984, .inl zv)), (q3, .inl (cyI, 80, .inl zt)), (q4, .inl (cyI, 5, .inl u_2)), (q5, .inl (cyI, 40, .inl zm)), (q6, .inl (cyI, 40, .inl zk))] := hD
  have hz_u_5 : u_5 = zs := by rw [hu_5, hu_3, hu_2]; exact takeBack_id zs zp mo
  rw [hz_u_5] at hP hD
  refine lv_iload_n hx hb dX9_isWorseZone_23 rfl (lv_at hl 0 rfl) ?_
  refine lv_iload_n hx hb dX9_isWorseZone_24 rfl (lv_at hl 1 rfl) ?_
  refine lv_icmp_le (tgt := 32) hx hb dX9_isWorseZone_25 (by decide) (fun c_6 => ?_) (fun c_6 => ?_)
  ·
    have hE := hE.trans (if_pos c_6)
    refine lv_iconst (v := 0) hx hb dX9_isWorseZone_32 (by decide) ?_
    exact W.zret (v := (0 : Int32)) hx hb hr rfl (fun t h9 hW => ⟨⟨(0 : Int32), (((0 : Int32), u_2) : Int32 × (Nat → Int32)), rfl, ⟨hE.symm, rfl, (by decide)⟩, by rw [h9]; exact hP, hD⟩, hS.F h9⟩) hS.2.2 dX9_isWorseZone_33
  ·
    have hE := hE.trans (if_neg c_6)
    refine lv_iconst (v := 1) hx hb dX9_isWorseZone_28 (by decide) ?_
    refine lv_goto (tgt := 33) hx hb dX9_isWorseZone_29 (by decide) ?_
    exact W.zret (v := (1 : Int32)) hx hb hr rfl (fun t h9 hW => ⟨⟨(1 : Int32), (((1 : Int32), u_2) : Int32 × (Nat → Int32)), rfl, ⟨hE.symm, rfl, (by decide)⟩, by rw [h9]; exact hP, hD⟩, hS.F h9⟩) hS.2.2 dX9_isWorseZone_33
def m_isOverloadAhead_j45 (zs : Nat → Int32) (u_3 : Int32 × Int32 × Int32) (x_5 : Int32) (t0_45 : Int32) : Int32 × Int32 × Int32 :=
  spLet (m_utilizationAt (u_3.2.1) (u_3.2.2) zs (((zs 2) + t0_45) - ((zs 2) + t0_45) / (3600 : Int32) * (3600 : Int32))) (fun r_7 => if r_7 < (1000 : Int32) then (((0 : Int32), (u_3.2.1), (u_3.2.2))) else (if r_7 ≤ x_5 then (((0 : Int32), (u_3.2.1), (u_3.2.2))) else (((1 : Int32), (u_3.2.1), (u_3.2.2)))))
def m_isOverloadAhead (mm : Int32) (mr : Int32) (zs : Nat → Int32) (mo : Int32) : Int32 × Int32 × Int32 :=
  if mo < (6 : Int32) then (((0 : Int32), mm, mr)) else (if (zs 7) = (3 : Int32) then (((0 : Int32), mm, mr)) else (spLet (m_utilization mr zs) (fun u_3 => spLet ((u_3.1)) (fun x_5 => if mo = (6 : Int32) then (m_isOverloadAhead_j45 zs u_3 x_5 (50 : Int32)) else (m_isOverloadAhead_j45 zs u_3 x_5 (3550 : Int32))))))
set_option maxHeartbeats 1000000 in
set_option maxRecDepth 100000 in
theorem c_X9_isOverloadAhead (l : Launch) (dC : Nat → ClassId) (dI : Nat → Nat → Nat) (cyI : ClassId) (sz : Nat) (q0 : Nat) (q1 : Nat) (q2 : Nat) (q3 : Nat) (q4 : Nat) (q5 : Nat) (q6 : Nat) (svc : Int32) (tl : Int32) (cde : Int32) (mm : Int32) (mr : Int32) (ati : Int32) (ors : Int32) (zs : Nat → Int32) (zv : Nat → Int32) (zt : Nat → Int32) (zp : Nat → Int32) (zm : Nat → Int32) (zk : Nat → Int32) (mo : Int32) (hG : mG zs) : Met l yX9_isOverloadAhead wqX9_isOverloadAhead ({ frames := 8, cells := 0, slots := 0, locals := 169 } : Room) (va_Pc [.ref q0, .int mo] (pC (dC, dI) [(q0, .inr (9, [.ref q1, .ref q2, .int svc, .ref q3, .int tl, .int cde, .int mm, .int mr, .ref q4, .int ati, .int ors, .ref q5, .ref q6])), (q1, .inl (cyI, 246, .inl zs)), (q2, .inl (cyI, 984, .inl zv)), (q3, .inl (cyI, 80, .inl zt)), (q4, .inl (cyI, 5, .inl zp)), (q5, .inl (cyI, 40, .inl zm)), (q6, .inl (cyI, 40, .inl zk))] [(cyI, .int)] eM sz)) (va_Qi (fun (r : Int32) (u : Int32 × Int32 × Int32) => u = (m_isOverloadAhead mm mr zs mo) ∧ r = u.1 ∧ (r = 0 ∨ r = 1)) (fun (u : Int32 × Int32 × Int32) t => va_P (dC, dI) vwCl [(q0, .inr (9, [.ref q1, .ref q2, .int svc, .ref q3, .int tl, .int cde, .int (u.2.1), .int (u.2.2), .ref q4, .int ati, .int ors, .ref q5, .ref q6])), (q1, .inl (cyI, 246, .inl zs)), (q2, .inl (cyI, 984, .inl zv)), (q3, .inl (cyI, 80, .inl zt)), (q4, .inl (cyI, 5, .inl zp)), (q5, .inl (cyI, 40, .inl zm)), (q6, .inl (cyI, 40, .inl zk))] t.heap ∧ va_D (va_A [(q0, .inr (9, [.ref q1, .ref q2, .int svc, .ref q3, .int tl, .int cde, .int mm, .int mr, .ref q4, .int ati, .int ors, .ref q5, .ref q6])), (q1, .inl (cyI, 246, .inl zs)), (q2, .inl (cyI, 984, .inl zv)), (q3, .inl (cyI, 80, .inl zt)), (q4, .inl (cyI, 5, .inl zp)), (q5, .inl (cyI, 40, .inl zm)), (q6, .inl (cyI, 40, .inl zk))] sz) [(q0, .inr (9, [.ref q1, .ref q2, .int svc, .ref q3, .int tl, .int cde, .int (u.2.1), .int (u.2.2), .ref q4, .int ati, .int ors, .ref q5, .ref q6])), (q1, .inl (cyI, 246, .inl zs)), (q2, .inl (cyI, 984, .inl zv)), (q3, .inl (cyI, 80, .inl zt)), (q4, .inl (cyI, 5, .inl zp)), (q5, .inl (cyI, 40, .inl zm)), (q6, .inl (cyI, 40, .inl zk))]) (va_A [(q0, .inr (9, [.ref q1, .ref q2, .int svc, .ref q3, .int tl, .int cde, .int mm, .int mr, .ref q4, .int ati, .int ors, .ref q5, .ref q6])), (q1, .inl (cyI, 246, .inl zs)), (q2, .inl (cyI, 984, .inl zv)), (q3, .inl (cyI, 80, .inl zt)), (q4, .inl (cyI, 5, .inl zp)), (q5, .inl (cyI, 40, .inl zm)), (q6, .inl (cyI, 40, .inl zk))] sz)) 0 0 (va_A [(q0, .inr (9, [.ref q1, .ref q2, .int svc, .ref q3, .int tl, .int cde, .int mm, .int mr, .ref q4, .int ati, .int ors, .ref q5, .ref q6])), (q1, .inl (cyI, 246, .inl zs)), (q2, .inl (cyI, 984, .inl zv)), (q3, .inl (cyI, 80, .inl zt)), (q4, .inl (cyI, 5, .inl zp)), (q5, .inl (cyI, 40, .inl zm)), (q6, .inl (cyI, 40, .inl zk))] sz) := by
  refine Met.ofW (cc := cX9_isOverloadAhead) (maxL := 4) (ret := (some .boolean)) (by decide) rfl ?_
  intro p e s m args below meth c s₁ B hml hv
  obtain ⟨rfl, hsz, hP, hK, hD0, he⟩ := hv
  have hx := B.exec
  have hb := B.bytes
  have hr := B.returns
  have hts := atoms_spec (ws := wqX9_isOverloadAhead) B.pre
  have hown : s.vm.findClass RX9 = some m.cls := findClass_of_methodNamed B.named
  have hlocks := B.notSynchronized
  have w_0 := hts (Cond.fieldLink RX9 7 "CraneLimiterModel" "s" "[I") (List.mem_cons_of_mem _ b_93)
  have i_X9 : ∀ w ∈ u_ws RX9 TX9 13, w ∈ wqX9_isOverloadAhead := fun w h => List.mem_cons_of_mem _ (bX9 w h)
  subst hsz
  have hD := hD0.self (sz := s.heap.size)
  generalize hAe : va_A [(q0, .inr (9, [.ref q1, .ref q2, .int svc, .ref q3, .int tl, .int cde, .int mm, .int mr, .ref q4, .int ati, .int ors, .ref q5, .ref q6])), (q1, .inl (cyI, 246, .inl zs)), (q2, .inl (cyI, 984, .inl zv)), (q3, .inl (cyI, 80, .inl zt)), (q4, .inl (cyI, 5, .inl zp)), (q5, .inl (cyI, 40, .inl zm)), (q6, .inl (cyI, 40, .inl zk))] s.heap.size = A at hD he ⊢
  have hA : ∀ q : Nat, s.heap.size ≤ q → A q := fun q h => by rw [← hAe]; exact Or.inr h
  have hS : va_S A s.heap s.heap [] := va_S.rf
  have hP : va_P (dC, dI) vwCl [(q0, .inr (9, [.ref q1, .ref q2, .int svc, .ref q3, .int tl, .int cde, .int mm, .int mr, .ref q4, .int ati, .int ors, .ref q5, .ref q6])), (q1, .inl (cyI, 246, .inl zs)), (q2, .inl (cyI, 984, .inl zv)), (q3, .inl (cyI, 80, .inl zt)), (q4, .inl (cyI, 5, .inl zp)), (q5, .inl (cyI, 40, .inl zm)), (q6, .inl (cyI, 40, .inl zk))] s.heap := hP
  have hl := lv_entry ([.ref q0, .int mo] : List Value) (n := 4) (Nat.le_of_ble_eq_true rfl)
  rw [lg_entry_eq]
  generalize (lg_sl ([.ref q0, .int mo] : List Value) ++ List.replicate (4 - (lg_sl ([.ref q0, .int mo] : List Value)).length) Slot.unset).toArray = ls at hl ⊢
  have hl : lv_has ls 4 [(0, .ref q0), (1, .int mo)] := hl
  have hE : m_isOverloadAhead mm mr zs mo = m_isOverloadAhead mm mr zs mo := rfl
  refine lv_iload_n hx hb dX9_isOverloadAhead_0 rfl (lv_at hl 1 rfl) ?_
  refine lv_bipush (v := 6) hx hb dX9_isOverloadAhead_1 (by decide) ?_
  refine lv_icmp_lt (tgt := 17) hx hb dX9_isOverloadAhead_3 (by decide) (fun c_1 => ?_) (fun c_1 => ?_)
  ·
    have hE := hE.trans (if_pos c_1)
    refine lv_iconst (v := 0) hx hb dX9_isOverloadAhead_17 (by decide) ?_
    exact W.zret (v := (0 : Int32)) hx hb hr rfl (fun t h9 hW => ⟨⟨(0 : Int32), (((0 : Int32), mm, mr) : Int32 × Int32 × Int32), rfl, ⟨hE.symm, rfl, (by decide)⟩, by rw [h9]; exact hP, hD⟩, hS.F h9⟩) hS.2.2 dX9_isOverloadAhead_18
  ·
    have hE := hE.trans (if_neg c_1)
    refine lv_aload_n hx hb dX9_isOverloadAhead_6 rfl (lv_at hl 0 rfl) ?_
    refine va_get (D := (dC, dI)) (ci := 9) (v := .ref q1) (C := RX9) (T := TX9) (N := 13) hx hb hts i_X9 hown hK hP 0 rfl rfl 0 (by decide) w_0 (fun _ h9 => h9) rfl dX9_isOverloadAhead_7 ?_
    refine lv_bipush (v := 7) hx hb dX9_isOverloadAhead_10 (by decide) ?_
    refine ra_ld hx hb hK hP 1 0 rfl rfl (j := 7) (rfl : (7 : Int32) = nI 7) (by omega) (by omega) dX9_isOverloadAhead_12 ?_
    refine lv_iconst (v := 3) hx hb dX9_isOverloadAhead_13 (by decide) ?_
    refine lv_icmp_ne (tgt := 19) hx hb dX9_isOverloadAhead_14 (by decide) (fun c_2 => ?_) (fun c_2 => ?_)
    ·
      have hE := hE.trans (if_neg c_2)
      refine lv_aload_n hx hb dX9_isOverloadAhead_19 rfl (lv_at hl 0 rfl) ?_
      refine mj_i (wr := []) (va_runV (As := []) (rest := []) ⟨hx, hb, hml, hown, hts⟩ (c_X9_utilization l dC dI cyI s.heap.size q0 q1 q2 q3 q4 q5 q6 svc tl cde mm mr ati ors zs zv zt zp zm zk hG) (cwV 0 hts (gBV b_673 b_674 b_675 b_5 b_676) rfl rfl rfl (by decide +kernel) ⟨Nat.le_of_ble_eq_true rfl, Nat.le_of_ble_eq_true rfl⟩) (prm_v eM_ok he hS hP hD hK (va_free (wc := [(q0, .inr (9, [.ref q1, .ref q2, .int svc, .ref q3, .int tl, .int cde, .int mm, .int mr, .ref q4, .int ati, .int ors, .ref q5, .ref q6])), (q1, .inl (cyI, 246, .inl zs)), (q2, .inl (cyI, 984, .inl zv)), (q3, .inl (cyI, 80, .inl zt)), (q4, .inl (cyI, 5, .inl zp)), (q5, .inl (cyI, 40, .inl zm)), (q6, .inl (cyI, 40, .inl zk))]) hD hS hA [0, 1, 2, 3, 4, 5, 6] rfl) 0 rfl rfl rfl) rfl rfl hl.1 rfl (lv_room (Nat.le_of_ble_eq_true rfl)) dX9_isOverloadAhead_20 ⟨Nat.le_of_ble_eq_true rfl, Nat.le_of_ble_eq_true rfl⟩) hP hD hS hA [0, 1, 2, 3, 4, 5, 6] [] rfl rfl (by decide) (by decide) (fun r_4 u_3 H locs hw hP hD hS => ?_)
      obtain ⟨hu_3, rfl⟩ := hw
      have hE := hE.trans (spLet_eq hu_3)
      have hP : va_P (dC, dI) vwCl [(q0, .inr (9, [.ref q1, .ref q2, .int svc, .ref q3, .int tl, .int cde, .int (u_3.2.1), .int (u_3.2.2), .ref q4, .int ati, .int ors, .ref q5, .ref q6])), (q1, .inl (cyI, 246, .inl zs)), (q2, .inl (cyI, 984, .inl zv)), (q3, .inl (cyI, 80, .inl zt)), (q4, .inl (cyI, 5, .inl zp)), (q5, .inl (cyI, 40, .inl zm)), (q6, .inl (cyI, 40, .inl zk))] H := hP
      have hD : va_D A [(q0, .inr (9, [.ref q1, .ref q2, .int svc, .ref q3, .int tl, .int cde, .int (u_3.2.1), .int (u_3.2.2), .ref q4, .int ati, .int ors, .ref q5, .ref q6])), (q1, .inl (cyI, 246, .inl zs)), (q2, .inl (cyI, 984, .inl zv)), (q3, .inl (cyI, 80, .inl zt)), (q4, .inl (cyI, 5, .inl zp)), (q5, .inl (cyI, 40, .inl zm)), (q6, .inl (cyI, 40, .inl zk))] := hD
      refine lv_topi (fun x_5 ex_5 => ?_)
      have hE := hE.trans (spLet_eq ex_5)
      refine lv_istore_n (lv' := [(2, .int x_5), (0, .ref q0), (1, .int mo)]) hx hb dX9_isOverloadAhead_23 rfl hl (by decide) rfl (fun ls hl => ?_)
      refine lv_aload_n hx hb dX9_isOverloadAhead_24 rfl (lv_at hl 1 rfl) ?_
      refine lv_aload_n hx hb dX9_isOverloadAhead_25 rfl (lv_at hl 1 rfl) ?_
      refine va_get (D := (dC, dI)) (ci := 9) (v := .ref q1) (C := RX9) (T := TX9) (N := 13) hx hb hts i_X9 hown hK hP 0 rfl rfl 0 (by decide) w_0 (fun _ h9 => h9) rfl dX9_isOverloadAhead_26 ?_
      refine lv_iconst (v := 2) hx hb dX9_isOverloadAhead_29 (by decide) ?_
      refine ra_ld hx hb hK hP 1 0 rfl rfl (j := 2) (rfl : (2 : Int32) = nI 2) (by omega) (by omega) dX9_isOverloadAhead_30 ?_
      refine lv_iload_n hx hb dX9_isOverloadAhead_31 rfl (lv_at hl 2 rfl) ?_
      refine lv_bipush (v := 6) hx hb dX9_isOverloadAhead_32 (by decide) ?_
      have J45 : ∀ (t0_45 : Int32) (ls : Array Slot) (hl : lv_has ls 4 [(2, .int x_5)]) (hE : (m_isOverloadAhead mm mr zs mo) = m_isOverloadAhead_j45 zs u_3 x_5 t0_45), W p l e (headSpec wqX9_isOverloadAhead ({ frames := 8, cells := 0, slots := 0, locals := 169 } : Room)).room s m ([.ref q0, .int mo] : List Value).toArray below meth c H locs 0 0 (MQ below (va_Qi (fun (r : Int32) (u : Int32 × Int32 × Int32) => u = (m_isOverloadAhead mm mr zs mo) ∧ r = u.1 ∧ (r = 0 ∨ r = 1)) (fun (u : Int32 × Int32 × Int32) t => va_P (dC, dI) vwCl [(q0, .inr (9, [.ref q1, .ref q2, .int svc, .ref q3, .int tl, .int cde, .int (u.2.1), .int (u.2.2), .ref q4, .int ati, .int ors, .ref q5, .ref q6])), (q1, .inl (cyI, 246, .inl zs)), (q2, .inl (cyI, 984, .inl zv)), (q3, .inl (cyI, 80, .inl zt)), (q4, .inl (cyI, 5, .inl zp)), (q5, .inl (cyI, 40, .inl zm)), (q6, .inl (cyI, 40, .inl zk))] t.heap ∧ va_D A [(q0, .inr (9, [.ref q1, .ref q2, .int svc, .ref q3, .int tl, .int cde, .int (u.2.1), .int (u.2.2), .ref q4, .int ati, .int ors, .ref q5, .ref q6])), (q1, .inl (cyI, 246, .inl zs)), (q2, .inl (cyI, 984, .inl zv)), (q3, .inl (cyI, 80, .inl zt)), (q4, .inl (cyI, 5, .inl zp)), (q5, .inl (cyI, 40, .inl zm)), (q6, .inl (cyI, 40, .inl zk))]) A) ([.ref q0, .int mo] : List Value).toArray s 0 0 A) (F0 m 45 ls [.int t0_45, .int (zs 2), .ref q0]) := by
        intro t0_45 ls hl hE
        refine lv_iadd hx hb dX9_isOverloadAhead_45 ?_
        refine lv_sipush (v := 3600) hx hb dX9_isOverloadAhead_46 (by decide) ?_
        refine lv_irem hx hb dX9_isOverloadAhead_49 (by decide) ?_
        refine vp_callSi (W.runV (As := [.int (((zs 2) + t0_45) - ((zs 2) + t0_45) / (3600 : Int32) * (3600 : Int32))]) (rest := []) ⟨hx, hb, hml, hown, hts⟩ (c_X9_utilizationAt l dC dI cyI q0 q1 q2 q3 q4 q5 q6 svc tl cde (u_3.2.1) (u_3.2.2) ati ors zs zv zt zp zm zk (((zs 2) + t0_45) - ((zs 2) + t0_45) / (3600 : Int32) * (3600 : Int32)) hG) (cwV 1 hts (gBV b_701 b_702 b_703 b_5 b_704) rfl rfl rfl (by decide +kernel) ⟨Nat.le_of_ble_eq_true rfl, Nat.le_of_ble_eq_true rfl⟩) (pre_v eM_ok he hS hP hK 0 rfl rfl rfl) rfl rfl hl.1 rfl (lv_room (Nat.le_of_ble_eq_true rfl)) dX9_isOverloadAhead_50 ⟨Nat.zero_le _, Nat.zero_le _⟩) (fun r_7 hr_7 => ?_)
        have hE := hE.trans (spLet_eq hr_7)
        refine lv_istore_n (lv' := [(3, .int r_7), (2, .int x_5)]) hx hb dX9_isOverloadAhead_53 rfl hl (by decide) rfl (fun ls hl => ?_)
        refine lv_iload_n hx hb dX9_isOverloadAhead_54 rfl (lv_at hl 0 rfl) ?_
        refine lv_sipush (v := 1000) hx hb dX9_isOverloadAhead_55 (by decide) ?_
        refine lv_icmp_lt (tgt := 70) hx hb dX9_isOverloadAhead_58 (by decide) (fun c_8 => ?_) (fun c_8 => ?_)
        ·
          have hE := hE.trans (if_pos c_8)
          refine lv_iconst (v := 0) hx hb dX9_isOverloadAhead_70 (by decide) ?_
          exact W.zret (v := (0 : Int32)) hx hb hr rfl (fun t h9 hW => ⟨⟨(0 : Int32), (((0 : Int32), (u_3.2.1), (u_3.2.2)) : Int32 × Int32 × Int32), rfl, ⟨hE.symm, rfl, (by decide)⟩, by rw [h9]; exact hP, hD⟩, hS.F h9⟩) hS.2.2 dX9_isOverloadAhead_71
        ·
          have hE := hE.trans (if_neg c_8)
          refine lv_iload_n hx hb dX9_isOverloadAhead_61 rfl (lv_at hl 0 rfl) ?_
          refine lv_iload_n hx hb dX9_isOverloadAhead_62 rfl (lv_at hl 1 rfl) ?_
          refine lv_icmp_le (tgt := 70) hx hb dX9_isOverloadAhead_63 (by decide) (fun c_9 => ?_) (fun c_9 => ?_)
          ·
            have hE := hE.trans (if_pos c_9)
            refine lv_iconst (v := 0) hx hb dX9_isOverloadAhead_70 (by decide) ?_
            exact W.zret (v := (0 : Int32)) hx hb hr rfl (fun t h9 hW => ⟨⟨(0 : Int32), (((0 : Int32), (u_3.2.1), (u_3.2.2)) : Int32 × Int32 × Int32), rfl, ⟨hE.symm, rfl, (by decide)⟩, by rw [h9]; exact hP, hD⟩, hS.F h9⟩) hS.2.2 dX9_isOverloadAhead_71
          ·
            have hE := hE.trans (if_neg c_9)
            refine lv_iconst (v := 1) hx hb dX9_isOverloadAhead_66 (by decide) ?_
            refine lv_goto (tgt := 71) hx hb dX9_isOverloadAhead_67 (by decide) ?_
            exact W.zret (v := (1 : Int32)) hx hb hr rfl (fun t h9 hW => ⟨⟨(1 : Int32), (((1 : Int32), (u_3.2.1), (u_3.2.2)) : Int32 × Int32 × Int32), rfl, ⟨hE.symm, rfl, (by decide)⟩, by rw [h9]; exact hP, hD⟩, hS.F h9⟩) hS.2.2 dX9_isOverloadAhead_71
      refine lv_icmp_ne (tgt := 42) hx hb dX9_isOverloadAhead_34 (by decide) (fun c_6 => ?_) (fun c_6 => ?_)
      ·
        have hE := hE.trans (if_neg c_6)
        refine lv_sipush (v := 3550) hx hb dX9_isOverloadAhead_42 (by decide) ?_
        exact J45 (3550 : Int32) ls (lv_sub hl [0] rfl) hE
      ·
        have hE := hE.trans (if_pos c_6)
        refine lv_bipush (v := 50) hx hb dX9_isOverloadAhead_37 (by decide) ?_
        refine lv_goto (tgt := 45) hx hb dX9_isOverloadAhead_39 (by decide) ?_
        exact J45 (50 : Int32) ls (lv_sub hl [0] rfl) hE
    ·
      have hE := hE.trans (if_pos c_2)
      refine lv_iconst (v := 0) hx hb dX9_isOverloadAhead_17 (by decide) ?_
      exact W.zret (v := (0 : Int32)) hx hb hr rfl (fun t h9 hW => ⟨⟨(0 : Int32), (((0 : Int32), mm, mr) : Int32 × Int32 × Int32), rfl, ⟨hE.symm, rfl, (by decide)⟩, by rw [h9]; exact hP, hD⟩, hS.F h9⟩) hS.2.2 dX9_isOverloadAhead_18
def m_isPermitted_j30 (mm : Int32) (mr : Int32) (zs : Nat → Int32) (zp : Nat → Int32) (mo : Int32) (t0_30 : Int32) : Int32 × Int32 × Int32 × (Nat → Int32) :=
  spLet (m_isAtEnd zs mo) (fun r_2 => if r_2 = 0 then (if t0_30 = 0 then (spLet (m_isWorseZone zs zp mo) (fun u_5 => if (u_5.1) = 0 then (spLet (m_isOverloadAhead mm mr zs mo) (fun u_8 => if (u_8.1) = 0 then (((1 : Int32), (u_8.2.1), (u_8.2.2), (u_5.2))) else (((0 : Int32), (u_8.2.1), (u_8.2.2), (u_5.2))))) else (((0 : Int32), mm, mr, (u_5.2))))) else (((0 : Int32), mm, mr, zp))) else (((0 : Int32), mm, mr, zp)))
def m_isPermitted_j29 (mm : Int32) (mr : Int32) (zs : Nat → Int32) (zp : Nat → Int32) (mo : Int32) : Int32 × Int32 × Int32 × (Nat → Int32) :=
  m_isPermitted_j30 mm mr zs zp mo (0 : Int32)
def m_isPermitted_j25 (mm : Int32) (mr : Int32) (zs : Nat → Int32) (zp : Nat → Int32) (mo : Int32) : Int32 × Int32 × Int32 × (Nat → Int32) :=
  m_isPermitted_j30 mm mr zs zp mo (1 : Int32)
def m_isPermitted (mm : Int32) (mr : Int32) (zs : Nat → Int32) (zp : Nat → Int32) (mo : Int32) : Int32 × Int32 × Int32 × (Nat → Int32) :=
  if (zs 7) = (2 : Int32) then (if mo = 0 then (m_isPermitted_j25 mm mr zs zp mo) else (if mo = (3 : Int32) then (m_isPermitted_j25 mm mr zs zp mo) else (if mo = (4 : Int32) then (m_isPermitted_j25 mm mr zs zp mo) else (m_isPermitted_j29 mm mr zs zp mo)))) else (m_isPermitted_j29 mm mr zs zp mo)
set_option maxHeartbeats 1000000 in
set_option maxRecDepth 100000 in
theorem c_X9_isPermitted (l : Launch) (dC : Nat → ClassId) (dI : Nat → Nat → Nat) (cyI : ClassId) (sz : Nat) (q0 : Nat) (q1 : Nat) (q2 : Nat) (q3 : Nat) (q4 : Nat) (q5 : Nat) (q6 : Nat) (svc : Int32) (tl : Int32) (cde : Int32) (mm : Int32) (mr : Int32) (ati : Int32) (ors : Int32) (zs : Nat → Int32) (zv : Nat → Int32) (zt : Nat → Int32) (zp : Nat → Int32) (zm : Nat → Int32) (zk : Nat → Int32) (mo : Int32) (hG : mG zs) : Met l yX9_isPermitted wqX9_isPermitted ({ frames := 9, cells := 0, slots := 0, locals := 192 } : Room) (va_Pc [.ref q0, .int mo] (pC (dC, dI) [(q0, .inr (9, [.ref q1, .ref q2, .int svc, .ref q3, .int tl, .int cde, .int mm, .int mr, .ref q4, .int ati, .int ors, .ref q5, .ref q6])), (q1, .inl (cyI, 246, .inl zs)), (q2, .inl (cyI, 984, .inl zv)), (q3, .inl (cyI, 80, .inl zt)), (q4, .inl (cyI, 5, .inl zp)), (q5, .inl (cyI, 40, .inl zm)), (q6, .inl (cyI, 40, .inl zk))] [(cyI, .int)] eM sz)) (va_Qi (fun (r : Int32) (u : Int32 × Int32 × Int32 × (Nat → Int32)) => u = (m_isPermitted mm mr zs zp mo) ∧ r = u.1 ∧ (r = 0 ∨ r = 1)) (fun (u : Int32 × Int32 × Int32 × (Nat → Int32)) t => va_P (dC, dI) vwCl [(q0, .inr (9, [.ref q1, .ref q2, .int svc, .ref q3, .int tl, .int cde, .int (u.2.1), .int (u.2.2.1), .ref q4, .int ati, .int ors, .ref q5, .ref q6])), (q1, .inl (cyI, 246, .inl zs)), (q2, .inl (cyI, 984, .inl zv)), (q3, .inl (cyI, 80, .inl zt)), (q4, .inl (cyI, 5, .inl (u.2.2.2))), (q5, .inl (cyI, 40, .inl zm)), (q6, .inl (cyI, 40, .inl zk))] t.heap ∧ va_D (va_A [(q0, .inr (9, [.ref q1, .ref q2, .int svc, .ref q3, .int tl, .int cde, .int mm, .int mr, .ref q4, .int ati, .int ors, .ref q5, .ref q6])), (q1, .inl (cyI, 246, .inl zs)), (q2, .inl (cyI, 984, .inl zv)), (q3, .inl (cyI, 80, .inl zt)), (q4, .inl (cyI, 5, .inl zp)), (q5, .inl (cyI, 40, .inl zm)), (q6, .inl (cyI, 40, .inl zk))] sz) [(q0, .inr (9, [.ref q1, .ref q2, .int svc, .ref q3, .int tl, .int cde, .int (u.2.1), .int (u.2.2.1), .ref q4, .int ati, .int ors, .ref q5, .ref q6])), (q1, .inl (cyI, 246, .inl zs)), (q2, .inl (cyI, 984, .inl zv)), (q3, .inl (cyI, 80, .inl zt)), (q4, .inl (cyI, 5, .inl (u.2.2.2))), (q5, .inl (cyI, 40, .inl zm)), (q6, .inl (cyI, 40, .inl zk))]) (va_A [(q0, .inr (9, [.ref q1, .ref q2, .int svc, .ref q3, .int tl, .int cde, .int mm, .int mr, .ref q4, .int ati, .int ors, .ref q5, .ref q6])), (q1, .inl (cyI, 246, .inl zs)), (q2, .inl (cyI, 984, .inl zv)), (q3, .inl (cyI, 80, .inl zt)), (q4, .inl (cyI, 5, .inl zp)), (q5, .inl (cyI, 40, .inl zm)), (q6, .inl (cyI, 40, .inl zk))] sz)) 0 0 (va_A [(q0, .inr (9, [.ref q1, .ref q2, .int svc, .ref q3, .int tl, .int cde, .int mm, .int mr, .ref q4, .int ati, .int ors, .ref q5, .ref q6])), (q1, .inl (cyI, 246, .inl zs)), (q2, .inl (cyI, 984, .inl zv)), (q3, .inl (cyI, 80, .inl zt)), (q4, .inl (cyI, 5, .inl zp)), (q5, .inl (cyI, 40, .inl zm)), (q6, .inl (cyI, 40, .inl zk))] sz) := by
  refine Met.ofW (cc := cX9_isPermitted) (maxL := 3) (ret := (some .boolean)) (by decide) rfl ?_
  intro p e s m args below meth c s₁ B hml hv
  obtain ⟨rfl, hsz, hP, hK, hD0, he⟩ := hv
  have hx := B.exec
  have hb := B.bytes
  have hr := B.returns
  have hts := atoms_spec (ws := wqX9_isPermitted) B.pre
  have hown : s.vm.findClass RX9 = some m.cls := findClass_of_methodNamed B.named
  have hlocks := B.notSynchronized
  have w_0 := hts (Cond.fieldLink RX9 7 "CraneLimiterModel" "s" "[I") (List.mem_cons_of_mem _ b_93)
  have i_X9 : ∀ w ∈ u_ws RX9 TX9 13, w ∈ wqX9_isPermitted := fun w h => List.mem_cons_of_mem _ (bX9 w h)
  subst hsz
  have hD := hD0.self (sz := s.heap.size)
  generalize hAe : va_A [(q0, .inr (9, [.ref q1, .ref q2, .int svc, .ref q3, .int tl, .int cde, .int mm, .int mr, .ref q4, .int ati, .int ors, .ref q5, .ref q6])), (q1, .inl (cyI, 246, .inl zs)), (q2, .inl (cyI, 984, .inl zv)), (q3, .inl (cyI, 80, .inl zt)), (q4, .inl (cyI, 5, .inl zp)), (q5, .inl (cyI, 40, .inl zm)), (q6, .inl (cyI, 40, .inl zk))] s.heap.size = A at hD he ⊢
  have hA : ∀ q : Nat, s.heap.size ≤ q → A q := fun q h => by rw [← hAe]; exact Or.inr h
  have hS : va_S A s.heap s.heap [] := va_S.rf
  have hP : va_P (dC, dI) vwCl [(q0, .inr (9, [.ref q1, .ref q2, .int svc, .ref q3, .int tl, .int cde, .int mm, .int mr, .ref q4, .int ati, .int ors, .ref q5, .ref q6])), (q1, .inl (cyI, 246, .inl zs)), (q2, .inl (cyI, 984, .inl zv)), (q3, .inl (cyI, 80, .inl zt)), (q4, .inl (cyI, 5, .inl zp)), (q5, .inl (cyI, 40, .inl zm)), (q6, .inl (cyI, 40, .inl zk))] s.heap := hP
  have hl := lv_entry ([.ref q0, .int mo] : List Value) (n := 3) (Nat.le_of_ble_eq_true rfl)
  rw [lg_entry_eq]
  generalize (lg_sl ([.ref q0, .int mo] : List Value) ++ List.replicate (3 - (lg_sl ([.ref q0, .int mo] : List Value)).length) Slot.unset).toArray = ls at hl ⊢
  have hl : lv_has ls 3 [(0, .ref q0), (1, .int mo)] := hl
  have hE : m_isPermitted mm mr zs zp mo = m_isPermitted mm mr zs zp mo := rfl
  refine lv_aload_n hx hb dX9_isPermitted_0 rfl (lv_at hl 0 rfl) ?_
  refine va_get (D := (dC, dI)) (ci := 9) (v := .ref q1) (C := RX9) (T := TX9) (N := 13) hx hb hts i_X9 hown hK hP 0 rfl rfl 0 (by decide) w_0 (fun _ h9 => h9) rfl dX9_isPermitted_1 ?_
  refine lv_bipush (v := 7) hx hb dX9_isPermitted_4 (by decide) ?_
  refine ra_ld hx hb hK hP 1 0 rfl rfl (j := 7) (rfl : (7 : Int32) = nI 7) (by omega) (by omega) dX9_isPermitted_6 ?_
  refine lv_iconst (v := 2) hx hb dX9_isPermitted_7 (by decide) ?_
  have J30 : ∀ (t0_30 : Int32) (ls : Array Slot) (hl : lv_has ls 3 [(0, .ref q0), (1, .int mo)]) (hE : (m_isPermitted mm mr zs zp mo) = m_isPermitted_j30 mm mr zs zp mo t0_30), W p l e (headSpec wqX9_isPermitted ({ frames := 9, cells := 0, slots := 0, locals := 192 } : Room)).room s m ([.ref q0, .int mo] : List Value).toArray below meth c s.heap [] 0 0 (MQ below (va_Qi (fun (r : Int32) (u : Int32 × Int32 × Int32 × (Nat → Int32)) => u = (m_isPermitted mm mr zs zp mo) ∧ r = u.1 ∧ (r = 0 ∨ r = 1)) (fun (u : Int32 × Int32 × Int32 × (Nat → Int32)) t => va_P (dC, dI) vwCl [(q0, .inr (9, [.ref q1, .ref q2, .int svc, .ref q3, .int tl, .int cde, .int (u.2.1), .int (u.2.2.1), .ref q4, .int ati, .int ors, .ref q5, .ref q6])), (q1, .inl (cyI, 246, .inl zs)), (q2, .inl (cyI, 984, .inl zv)), (q3, .inl (cyI, 80, .inl zt)), (q4, .inl (cyI, 5, .inl (u.2.2.2))), (q5, .inl (cyI, 40, .inl zm)), (q6, .inl (cyI, 40, .inl zk))] t.heap ∧ va_D A [(q0, .inr (9, [.ref q1, .ref q2, .int svc, .ref q3, .int tl, .int cde, .int (u.2.1), .int (u.2.2.1), .ref q4, .int ati, .int ors, .ref q5, .ref q6])), (q1, .inl (cyI, 246, .inl zs)), (q2, .inl (cyI, 984, .inl zv)), (q3, .inl (cyI, 80, .inl zt)), (q4, .inl (cyI, 5, .inl (u.2.2.2))), (q5, .inl (cyI, 40, .inl zm)), (q6, .inl (cyI, 40, .inl zk))]) A) ([.ref q0, .int mo] : List Value).toArray s 0 0 A) (F0 m 30 ls [.int t0_30]) := by
    intro t0_30 ls hl hE
    refine lv_istore_n (lv' := [(2, .int t0_30), (0, .ref q0), (1, .int mo)]) hx hb dX9_isPermitted_30 rfl hl (by decide) rfl (fun ls hl => ?_)
    refine lv_aload_n hx hb dX9_isPermitted_31 rfl (lv_at hl 1 rfl) ?_
    refine lv_iload_n hx hb dX9_isPermitted_32 rfl (lv_at hl 2 rfl) ?_
    refine vp_callSi (W.runV (As := [.int mo]) (rest := []) ⟨hx, hb, hml, hown, hts⟩ (c_X9_isAtEnd l dC dI cyI q0 q1 q2 q3 q4 q5 q6 svc tl cde mm mr ati ors zs zv zt zp zm zk mo) (cwV 1 hts (gBV b_645 b_646 b_647 b_5 b_648) rfl rfl rfl (by decide +kernel) ⟨Nat.le_of_ble_eq_true rfl, Nat.le_of_ble_eq_true rfl⟩) (pre_v eM_ok he hS hP hK 0 rfl rfl rfl) rfl rfl hl.1 rfl (lv_room (Nat.le_of_ble_eq_true rfl)) dX9_isPermitted_33 ⟨Nat.zero_le _, Nat.zero_le _⟩) (fun r_2 hr_2 => ?_)
    obtain ⟨hr_2, hbr_2⟩ := hr_2
    have hE := hE.trans (spLet_eq hr_2)
    refine lv_if_ne (tgt := 63) hx hb dX9_isPermitted_36 (by decide) (fun c_3 => ?_) (fun c_3 => ?_)
    ·
      have hE := hE.trans (if_neg c_3)
      refine lv_iconst (v := 0) hx hb dX9_isPermitted_63 (by decide) ?_
      exact W.zret (v := (0 : Int32)) hx hb hr rfl (fun t h9 hW => ⟨⟨(0 : Int32), (((0 : Int32), mm, mr, zp) : Int32 × Int32 × Int32 × (Nat → Int32)), rfl, ⟨hE.symm, rfl, (by decide)⟩, by rw [h9]; exact hP, hD⟩, hS.F h9⟩) hS.2.2 dX9_isPermitted_64
    ·
      have hE := hE.trans (if_pos c_3)
      refine lv_iload_n hx hb dX9_isPermitted_39 rfl (lv_at hl 0 rfl) ?_
      refine lv_if_ne (tgt := 63) hx hb dX9_isPermitted_40 (by decide) (fun c_4 => ?_) (fun c_4 => ?_)
      ·
        have hE := hE.trans (if_neg c_4)
        refine lv_iconst (v := 0) hx hb dX9_isPermitted_63 (by decide) ?_
        exact W.zret (v := (0 : Int32)) hx hb hr rfl (fun t h9 hW => ⟨⟨(0 : Int32), (((0 : Int32), mm, mr, zp) : Int32 × Int32 × Int32 × (Nat → Int32)), rfl, ⟨hE.symm, rfl, (by decide)⟩, by rw [h9]; exact hP, hD⟩, hS.F h9⟩) hS.2.2 dX9_isPermitted_64
      ·
        have hE := hE.trans (if_pos c_4)
        refine lv_aload_n hx hb dX9_isPermitted_43 rfl (lv_at hl 1 rfl) ?_
        refine lv_iload_n hx hb dX9_isPermitted_44 rfl (lv_at hl 2 rfl) ?_
        refine mj_i (wr := []) (va_runV (As := [.int mo]) (rest := []) ⟨hx, hb, hml, hown, hts⟩ (c_X9_isWorseZone l dC dI cyI s.heap.size q0 q1 q2 q3 q4 q5 q6 svc tl cde mm mr ati ors zs zv zt zp zm zk mo hG) (cwV 1 hts (gBV b_649 b_650 b_651 b_5 b_652) rfl rfl rfl (by decide +kernel) ⟨Nat.le_of_ble_eq_true rfl, Nat.le_of_ble_eq_true rfl⟩) (prm_v eM_ok he hS hP hD hK (va_free (wc := [(q0, .inr (9, [.ref q1, .ref q2, .int svc, .ref q3, .int tl, .int cde, .int mm, .int mr, .ref q4, .int ati, .int ors, .ref q5, .ref q6])), (q1, .inl (cyI, 246, .inl zs)), (q2, .inl (cyI, 984, .inl zv)), (q3, .inl (cyI, 80, .inl zt)), (q4, .inl (cyI, 5, .inl zp)), (q5, .inl (cyI, 40, .inl zm)), (q6, .inl (cyI, 40, .inl zk))]) hD hS hA [0, 1, 2, 3, 4, 5, 6] rfl) 0 rfl rfl rfl) rfl rfl hl.1 rfl (lv_room (Nat.le_of_ble_eq_true rfl)) dX9_isPermitted_45 ⟨Nat.le_of_ble_eq_true rfl, Nat.le_of_ble_eq_true rfl⟩) hP hD hS hA [0, 1, 2, 3, 4, 5, 6] [] rfl rfl (by decide) (by decide) (fun r_6 u_5 H locs hw hP hD hS => ?_)
        obtain ⟨hu_5, rfl, hbu_5⟩ := hw
        have hE := hE.trans (spLet_eq hu_5)
        have hP : va_P (dC, dI) vwCl [(q0, .inr (9, [.ref q1, .ref q2, .int svc, .ref q3, .int tl, .int cde, .int mm, .int mr, .ref q4, .int ati, .int ors, .ref q5, .ref q6])), (q1, .inl (cyI, 246, .inl zs)), (q2, .inl (cyI, 984, .inl zv)), (q3, .inl (cyI, 80, .inl zt)), (q4, .inl (cyI, 5, .inl (u_5.2))), (q5, .inl (cyI, 40, .inl zm)), (q6, .inl (cyI, 40, .inl zk))] H := hP
        have hD : va_D A [(q0, .inr (9, [.ref q1, .ref q2, .int svc, .ref q3, .int tl, .int cde, .int mm, .int mr, .ref q4, .int ati, .int ors, .ref q5, .ref q6])), (q1, .inl (cyI, 246, .inl zs)), (q2, .inl (cyI, 984, .inl zv)), (q3, .inl (cyI, 80, .inl zt)), (q4, .inl (cyI, 5, .inl (u_5.2))), (q5, .inl (cyI, 40, .inl zm)), (q6, .inl (cyI, 40, .inl zk))] := hD
        refine lv_if_ne (tgt := 63) hx hb dX9_isPermitted_48 (by decide) (fun c_7 => ?_) (fun c_7 => ?_)
        ·
          have hE := hE.trans (if_neg c_7)
          refine lv_iconst (v := 0) hx hb dX9_isPermitted_63 (by decide) ?_
          exact W.zret (v := (0 : Int32)) hx hb hr rfl (fun t h9 hW => ⟨⟨(0 : Int32), (((0 : Int32), mm, mr, (u_5.2)) : Int32 × Int32 × Int32 × (Nat → Int32)), rfl, ⟨hE.symm, rfl, (by decide)⟩, by rw [h9]; exact hP, hD⟩, hS.F h9⟩) hS.2.2 dX9_isPermitted_64
        ·
          have hE := hE.trans (if_pos c_7)
          refine lv_aload_n hx hb dX9_isPermitted_51 rfl (lv_at hl 1 rfl) ?_
          refine lv_iload_n hx hb dX9_isPermitted_52 rfl (lv_at hl 2 rfl) ?_
          refine mj_i (wr := []) (va_runV (As := [.int mo]) (rest := []) ⟨hx, hb, hml, hown, hts⟩ (c_X9_isOverloadAhead l dC dI cyI H.size q0 q1 q2 q3 q4 q5 q6 svc tl cde mm mr ati ors zs zv zt (u_5.2) zm zk mo hG) (cwV 1 hts (gBV b_669 b_670 b_671 b_5 b_672) rfl rfl rfl (by decide +kernel) ⟨Nat.le_of_ble_eq_true rfl, Nat.le_of_ble_eq_true rfl⟩) (prm_v eM_ok he hS hP hD hK (va_free (wc := [(q0, .inr (9, [.ref q1, .ref q2, .int svc, .ref q3, .int tl, .int cde, .int mm, .int mr, .ref q4, .int ati, .int ors, .ref q5, .ref q6])), (q1, .inl (cyI, 246, .inl zs)), (q2, .inl (cyI, 984, .inl zv)), (q3, .inl (cyI, 80, .inl zt)), (q4, .inl (cyI, 5, .inl (u_5.2))), (q5, .inl (cyI, 40, .inl zm)), (q6, .inl (cyI, 40, .inl zk))]) hD hS hA [0, 1, 2, 3, 4, 5, 6] rfl) 0 rfl rfl rfl) rfl rfl hl.1 rfl (lv_room (Nat.le_of_ble_eq_true rfl)) dX9_isPermitted_53 ⟨Nat.le_of_ble_eq_true rfl, Nat.le_of_ble_eq_true rfl⟩) hP hD hS hA [0, 1, 2, 3, 4, 5, 6] [] rfl rfl (by decide) (by decide) (fun r_9 u_8 H locs hw hP hD hS => ?_)
          obtain ⟨hu_8, rfl, hbu_8⟩ := hw
          have hE := hE.trans (spLet_eq hu_8)
          have hP : va_P (dC, dI) vwCl [(q0, .inr (9, [.ref q1, .ref q2, .int svc, .ref q3, .int tl, .int cde, .int (u_8.2.1), .int (u_8.2.2), .ref q4, .int ati, .int ors, .ref q5, .ref q6])), (q1, .inl (cyI, 246, .inl zs)), (q2, .inl (cyI, 984, .inl zv)), (q3, .inl (cyI, 80, .inl zt)), (q4, .inl (cyI, 5, .inl (u_5.2))), (q5, .inl (cyI, 40, .inl zm)), (q6, .inl (cyI, 40, .inl zk))] H := hP
          have hD : va_D A [(q0, .inr (9, [.ref q1, .ref q2, .int svc, .ref q3, .int tl, .int cde, .int (u_8.2.1), .int (u_8.2.2), .ref q4, .int ati, .int ors, .ref q5, .ref q6])), (q1, .inl (cyI, 246, .inl zs)), (q2, .inl (cyI, 984, .inl zv)), (q3, .inl (cyI, 80, .inl zt)), (q4, .inl (cyI, 5, .inl (u_5.2))), (q5, .inl (cyI, 40, .inl zm)), (q6, .inl (cyI, 40, .inl zk))] := hD
          refine lv_if_ne (tgt := 63) hx hb dX9_isPermitted_56 (by decide) (fun c_10 => ?_) (fun c_10 => ?_)
          ·
            have hE := hE.trans (if_neg c_10)
            refine lv_iconst (v := 0) hx hb dX9_isPermitted_63 (by decide) ?_
            exact W.zret (v := (0 : Int32)) hx hb hr rfl (fun t h9 hW => ⟨⟨(0 : Int32), (((0 : Int32), (u_8.2.1), (u_8.2.2), (u_5.2)) : Int32 × Int32 × Int32 × (Nat → Int32)), rfl, ⟨hE.symm, rfl, (by decide)⟩, by rw [h9]; exact hP, hD⟩, hS.F h9⟩) hS.2.2 dX9_isPermitted_64
          ·
            have hE := hE.trans (if_pos c_10)
            refine lv_iconst (v := 1) hx hb dX9_isPermitted_59 (by decide) ?_
            refine lv_goto (tgt := 64) hx hb dX9_isPermitted_60 (by decide) ?_
            exact W.zret (v := (1 : Int32)) hx hb hr rfl (fun t h9 hW => ⟨⟨(1 : Int32), (((1 : Int32), (u_8.2.1), (u_8.2.2), (u_5.2)) : Int32 × Int32 × Int32 × (Nat → Int32)), rfl, ⟨hE.symm, rfl, (by decide)⟩, by rw [h9]; exact hP, hD⟩, hS.F h9⟩) hS.2.2 dX9_isPermitted_64
  have J29 : ∀ (ls : Array Slot) (hl : lv_has ls 3 [(0, .ref q0), (1, .int mo)]) (hE : (m_isPermitted mm mr zs zp mo) = m_isPermitted_j29 mm mr zs zp mo), W p l e (headSpec wqX9_isPermitted ({ frames := 9, cells := 0, slots := 0, locals := 192 } : Room)).room s m ([.ref q0, .int mo] : List Value).toArray below meth c s.heap [] 0 0 (MQ below (va_Qi (fun (r : Int32) (u : Int32 × Int32 × Int32 × (Nat → Int32)) => u = (m_isPermitted mm mr zs zp mo) ∧ r = u.1 ∧ (r = 0 ∨ r = 1)) (fun (u : Int32 × Int32 × Int32 × (Nat → Int32)) t => va_P (dC, dI) vwCl [(q0, .inr (9, [.ref q1, .ref q2, .int svc, .ref q3, .int tl, .int cde, .int (u.2.1), .int (u.2.2.1), .ref q4, .int ati, .int ors, .ref q5, .ref q6])), (q1, .inl (cyI, 246, .inl zs)), (q2, .inl (cyI, 984, .inl zv)), (q3, .inl (cyI, 80, .inl zt)), (q4, .inl (cyI, 5, .inl (u.2.2.2))), (q5, .inl (cyI, 40, .inl zm)), (q6, .inl (cyI, 40, .inl zk))] t.heap ∧ va_D A [(q0, .inr (9, [.ref q1, .ref q2, .int svc, .ref q3, .int tl, .int cde, .int (u.2.1), .int (u.2.2.1), .ref q4, .int ati, .int ors, .ref q5, .ref q6])), (q1, .inl (cyI, 246, .inl zs)), (q2, .inl (cyI, 984, .inl zv)), (q3, .inl (cyI, 80, .inl zt)), (q4, .inl (cyI, 5, .inl (u.2.2.2))), (q5, .inl (cyI, 40, .inl zm)), (q6, .inl (cyI, 40, .inl zk))]) A) ([.ref q0, .int mo] : List Value).toArray s 0 0 A) (F0 m 29 ls []) := by
    intro ls hl hE
    refine lv_iconst (v := 0) hx hb dX9_isPermitted_29 (by decide) ?_
    exact J30 (0 : Int32) ls (lv_sub hl [0, 1] rfl) hE
  refine lv_icmp_ne (tgt := 29) hx hb dX9_isPermitted_8 (by decide) (fun c_1 => ?_) (fun c_1 => ?_)
  ·
    have hE := hE.trans (if_neg c_1)
    exact J29 ls (lv_sub hl [0, 1] rfl) hE
  ·
    have hE := hE.trans (if_pos c_1)
    refine lv_iload_n hx hb dX9_isPermitted_11 rfl (lv_at hl 1 rfl) ?_
    have J25 : ∀ (ls : Array Slot) (hl : lv_has ls 3 [(0, .ref q0), (1, .int mo)]) (hE : (m_isPermitted mm mr zs zp mo) = m_isPermitted_j25 mm mr zs zp mo), W p l e (headSpec wqX9_isPermitted ({ frames := 9, cells := 0, slots := 0, locals := 192 } : Room)).room s m ([.ref q0, .int mo] : List Value).toArray below meth c s.heap [] 0 0 (MQ below (va_Qi (fun (r : Int32) (u : Int32 × Int32 × Int32 × (Nat → Int32)) => u = (m_isPermitted mm mr zs zp mo) ∧ r = u.1 ∧ (r = 0 ∨ r = 1)) (fun (u : Int32 × Int32 × Int32 × (Nat → Int32)) t => va_P (dC, dI) vwCl [(q0, .inr (9, [.ref q1, .ref q2, .int svc, .ref q3, .int tl, .int cde, .int (u.2.1), .int (u.2.2.1), .ref q4, .int ati, .int ors, .ref q5, .ref q6])), (q1, .inl (cyI, 246, .inl zs)), (q2, .inl (cyI, 984, .inl zv)), (q3, .inl (cyI, 80, .inl zt)), (q4, .inl (cyI, 5, .inl (u.2.2.2))), (q5, .inl (cyI, 40, .inl zm)), (q6, .inl (cyI, 40, .inl zk))] t.heap ∧ va_D A [(q0, .inr (9, [.ref q1, .ref q2, .int svc, .ref q3, .int tl, .int cde, .int (u.2.1), .int (u.2.2.1), .ref q4, .int ati, .int ors, .ref q5, .ref q6])), (q1, .inl (cyI, 246, .inl zs)), (q2, .inl (cyI, 984, .inl zv)), (q3, .inl (cyI, 80, .inl zt)), (q4, .inl (cyI, 5, .inl (u.2.2.2))), (q5, .inl (cyI, 40, .inl zm)), (q6, .inl (cyI, 40, .inl zk))]) A) ([.ref q0, .int mo] : List Value).toArray s 0 0 A) (F0 m 25 ls []) := by
      intro ls hl hE
      refine lv_iconst (v := 1) hx hb dX9_isPermitted_25 (by decide) ?_
      refine lv_goto (tgt := 30) hx hb dX9_isPermitted_26 (by decide) ?_
      exact J30 (1 : Int32) ls (lv_sub hl [0, 1] rfl) hE
    refine lv_if_eq (tgt := 25) hx hb dX9_isPermitted_12 (by decide) (fun c_11 => ?_) (fun c_11 => ?_)
    ·
      have hE := hE.trans (if_pos c_11)
      exact J25 ls (lv_sub hl [0, 1] rfl) hE
    ·
      have hE := hE.trans (if_neg c_11)
      refine lv_iload_n hx hb dX9_isPermitted_15 rfl (lv_at hl 1 rfl) ?_
      refine lv_iconst (v := 3) hx hb dX9_isPermitted_16 (by decide) ?_
      refine lv_icmp_eq (tgt := 25) hx hb dX9_isPermitted_17 (by decide) (fun c_12 => ?_) (fun c_12 => ?_)
      ·
        have hE := hE.trans (if_pos c_12)
        exact J25 ls (lv_sub hl [0, 1] rfl) hE
      ·
        have hE := hE.trans (if_neg c_12)
        refine lv_iload_n hx hb dX9_isPermitted_20 rfl (lv_at hl 1 rfl) ?_
        refine lv_iconst (v := 4) hx hb dX9_isPermitted_21 (by decide) ?_
        refine lv_icmp_ne (tgt := 29) hx hb dX9_isPermitted_22 (by decide) (fun c_13 => ?_) (fun c_13 => ?_)
        ·
          have hE := hE.trans (if_neg c_13)
          exact J29 ls (lv_sub hl [0, 1] rfl) hE
        ·
          have hE := hE.trans (if_pos c_13)
          exact J25 ls (lv_sub hl [0, 1] rfl) hE
def m_log_j61 (kd : Int32) (vl : Int32) (w1_a_61 : Nat → Int32) : (Nat → Int32) :=
  spLet ((w1_a_61 8)) (fun x_3 => spLet (upd w1_a_61 (144 + (3 * (w1_a_61 143).toNatClampNeg)) x_3) (fun f_4 => spLet (upd f_4 ((144 + (3 * (w1_a_61 143).toNatClampNeg)) + 1) kd) (fun f_6 => spLet (upd f_6 ((144 + (3 * (w1_a_61 143).toNatClampNeg)) + 2) vl) (fun f_8 => spLet (((f_8 143) + (1 : Int32))) (fun x_9 => spLet (upd f_8 143 x_9) (fun f_10 => f_10))))))
def m_log_b15 (kd : Int32) (vl : Int32) (rec15 : Nat → (Nat → Int32) → ((Nat → Int32))) : Nat → (Nat → Int32) → ((Nat → Int32)) :=
  fun k3_15 w1_a_15 => if 87 ≤ k3_15 then (spLet (((w1_a_15 143) - (1 : Int32))) (fun x_12 => spLet (upd w1_a_15 143 x_12) (fun f_13 => m_log_j61 kd vl f_13))) else (spLet ((w1_a_15 ((144 + k3_15) + 3))) (fun x_16 => spLet (upd w1_a_15 (144 + k3_15) x_16) (fun f_17 => rec15 (k3_15 + 1) f_17)))
def m_log (zs : Nat → Int32) (kd : Int32) (vl : Int32) : (Nat → Int32) :=
  if (zs 143).toNatClampNeg = 30 then (spIter (fun _ _ => default) (m_log_b15 kd vl) 88 0 zs) else (m_log_j61 kd vl zs)
set_option maxHeartbeats 1000000 in
set_option maxRecDepth 100000 in
theorem c_X9_log (l : Launch) (dC : Nat → ClassId) (dI : Nat → Nat → Nat) (cyI : ClassId) (sz : Nat) (q0 : Nat) (q1 : Nat) (q2 : Nat) (q3 : Nat) (q4 : Nat) (q5 : Nat) (q6 : Nat) (svc : Int32) (tl : Int32) (cde : Int32) (mm : Int32) (mr : Int32) (ati : Int32) (ors : Int32) (zs : Nat → Int32) (zv : Nat → Int32) (zt : Nat → Int32) (zp : Nat → Int32) (zm : Nat → Int32) (zk : Nat → Int32) (kd : Int32) (vl : Int32) (hz : zs 143 = nI (zs 143).toNatClampNeg) (hz30 : (zs 143).toNatClampNeg ≤ 30) : Met l yX9_log wqX9_log ({ frames := 0, cells := 0, slots := 0, locals := 0 } : Room) (va_Pc [.ref q0, .int kd, .int vl] (pC (dC, dI) [(q0, .inr (9, [.ref q1, .ref q2, .int svc, .ref q3, .int tl, .int cde, .int mm, .int mr, .ref q4, .int ati, .int ors, .ref q5, .ref q6])), (q1, .inl (cyI, 246, .inl zs)), (q2, .inl (cyI, 984, .inl zv)), (q3, .inl (cyI, 80, .inl zt)), (q4, .inl (cyI, 5, .inl zp)), (q5, .inl (cyI, 40, .inl zm)), (q6, .inl (cyI, 40, .inl zk))] [(cyI, .int)] eM sz)) (va_Qv (fun u : (Nat → Int32) => u = (m_log zs kd vl)) (fun (u : (Nat → Int32)) t => va_P (dC, dI) vwCl [(q0, .inr (9, [.ref q1, .ref q2, .int svc, .ref q3, .int tl, .int cde, .int mm, .int mr, .ref q4, .int ati, .int ors, .ref q5, .ref q6])), (q1, .inl (cyI, 246, .inl u)), (q2, .inl (cyI, 984, .inl zv)), (q3, .inl (cyI, 80, .inl zt)), (q4, .inl (cyI, 5, .inl zp)), (q5, .inl (cyI, 40, .inl zm)), (q6, .inl (cyI, 40, .inl zk))] t.heap ∧ va_D (va_A [(q0, .inr (9, [.ref q1, .ref q2, .int svc, .ref q3, .int tl, .int cde, .int mm, .int mr, .ref q4, .int ati, .int ors, .ref q5, .ref q6])), (q1, .inl (cyI, 246, .inl zs)), (q2, .inl (cyI, 984, .inl zv)), (q3, .inl (cyI, 80, .inl zt)), (q4, .inl (cyI, 5, .inl zp)), (q5, .inl (cyI, 40, .inl zm)), (q6, .inl (cyI, 40, .inl zk))] sz) [(q0, .inr (9, [.ref q1, .ref q2, .int svc, .ref q3, .int tl, .int cde, .int mm, .int mr, .ref q4, .int ati, .int ors, .ref q5, .ref q6])), (q1, .inl (cyI, 246, .inl u)), (q2, .inl (cyI, 984, .inl zv)), (q3, .inl (cyI, 80, .inl zt)), (q4, .inl (cyI, 5, .inl zp)), (q5, .inl (cyI, 40, .inl zm)), (q6, .inl (cyI, 40, .inl zk))]) (va_A [(q0, .inr (9, [.ref q1, .ref q2, .int svc, .ref q3, .int tl, .int cde, .int mm, .int mr, .ref q4, .int ati, .int ors, .ref q5, .ref q6])), (q1, .inl (cyI, 246, .inl zs)), (q2, .inl (cyI, 984, .inl zv)), (q3, .inl (cyI, 80, .inl zt)), (q4, .inl (cyI, 5, .inl zp)), (q5, .inl (cyI, 40, .inl zm)), (q6, .inl (cyI, 40, .inl zk))] sz)) 0 0 (va_A [(q0, .inr (9, [.ref q1, .ref q2, .int svc, .ref q3, .int tl, .int cde, .int mm, .int mr, .ref q4, .int ati, .int ors, .ref q5, .ref q6])), (q1, .inl (cyI, 246, .inl zs)), (q2, .inl (cyI, 984, .inl zv)), (q3, .inl (cyI, 80, .inl zt)), (q4, .inl (cyI, 5, .inl zp)), (q5, .inl (cyI, 40, .inl zm)), (q6, .inl (cyI, 40, .inl zk))] sz) := by
  refine Met.ofW (cc := cX9_log) (maxL := 4) (ret := none) (by decide) rfl ?_
  intro p e s m args below meth c s₁ B hml hv
  obtain ⟨rfl, hsz, hP, hK, hD0, he⟩ := hv
  have hx := B.exec
  have hb := B.bytes
  have hr := B.returns
  have hts := atoms_spec (ws := wqX9_log) B.pre
  have hown : s.vm.findClass RX9 = some m.cls := findClass_of_methodNamed B.named
  have hlocks := B.notSynchronized
  have w_0 := hts (Cond.fieldLink RX9 7 "CraneLimiterModel" "s" "[I") (List.mem_cons_of_mem _ b_93)
  have i_X9 : ∀ w ∈ u_ws RX9 TX9 13, w ∈ wqX9_log := fun w h => List.mem_cons_of_mem _ (bX9 w h)
  subst hsz
  have hD := hD0.self (sz := s.heap.size)
  generalize hAe : va_A [(q0, .inr (9, [.ref q1, .ref q2, .int svc, .ref q3, .int tl, .int cde, .int mm, .int mr, .ref q4, .int ati, .int ors, .ref q5, .ref q6])), (q1, .inl (cyI, 246, .inl zs)), (q2, .inl (cyI, 984, .inl zv)), (q3, .inl (cyI, 80, .inl zt)), (q4, .inl (cyI, 5, .inl zp)), (q5, .inl (cyI, 40, .inl zm)), (q6, .inl (cyI, 40, .inl zk))] s.heap.size = A at hD he ⊢
  have hA : ∀ q : Nat, s.heap.size ≤ q → A q := fun q h => by rw [← hAe]; exact Or.inr h
  have hS : va_S A s.heap s.heap [] := va_S.rf
  have hP : va_P (dC, dI) vwCl [(q0, .inr (9, [.ref q1, .ref q2, .int svc, .ref q3, .int tl, .int cde, .int mm, .int mr, .ref q4, .int ati, .int ors, .ref q5, .ref q6])), (q1, .inl (cyI, 246, .inl zs)), (q2, .inl (cyI, 984, .inl zv)), (q3, .inl (cyI, 80, .inl zt)), (q4, .inl (cyI, 5, .inl zp)), (q5, .inl (cyI, 40, .inl zm)), (q6, .inl (cyI, 40, .inl zk))] s.heap := hP
  have hl := lv_entry ([.ref q0, .int kd, .int vl] : List Value) (n := 4) (Nat.le_of_ble_eq_true rfl)
  rw [lg_entry_eq]
  generalize (lg_sl ([.ref q0, .int kd, .int vl] : List Value) ++ List.replicate (4 - (lg_sl ([.ref q0, .int kd, .int vl] : List Value)).length) Slot.unset).toArray = ls at hl ⊢
  have hl : lv_has ls 4 [(0, .ref q0), (1, .int kd), (2, .int vl)] := hl
  have hE : m_log zs kd vl = m_log zs kd vl := rfl
  refine lv_aload_n hx hb dX9_log_0 rfl (lv_at hl 0 rfl) ?_
  refine va_get (D := (dC, dI)) (ci := 9) (v := .ref q1) (C := RX9) (T := TX9) (N := 13) hx hb hts i_X9 hown hK hP 0 rfl rfl 0 (by decide) w_0 (fun _ h9 => h9) rfl dX9_log_1 ?_
  refine lv_sipush (v := 143) hx hb dX9_log_4 (by decide) ?_
  refine ra_ld hx hb hK hP 1 0 rfl rfl (j := 143) (rfl : (143 : Int32) = nI 143) (by omega) (by omega) dX9_log_7 ?_
  refine lv_bipush (v := 30) hx hb dX9_log_8 (by decide) ?_
  have J61 : ∀ (w1_a_61 : Nat → Int32) (hi : w1_a_61 143 = nI (w1_a_61 143).toNatClampNeg ∧ (w1_a_61 143).toNatClampNeg < 30) (H : Heap) (locs : List Loc) (hP : va_P (dC, dI) vwCl [(q0, .inr (9, [.ref q1, .ref q2, .int svc, .ref q3, .int tl, .int cde, .int mm, .int mr, .ref q4, .int ati, .int ors, .ref q5, .ref q6])), (q1, .inl (cyI, 246, .inl w1_a_61)), (q2, .inl (cyI, 984, .inl zv)), (q3, .inl (cyI, 80, .inl zt)), (q4, .inl (cyI, 5, .inl zp)), (q5, .inl (cyI, 40, .inl zm)), (q6, .inl (cyI, 40, .inl zk))] H) (hD : va_D A [(q0, .inr (9, [.ref q1, .ref q2, .int svc, .ref q3, .int tl, .int cde, .int mm, .int mr, .ref q4, .int ati, .int ors, .ref q5, .ref q6])), (q1, .inl (cyI, 246, .inl w1_a_61)), (q2, .inl (cyI, 984, .inl zv)), (q3, .inl (cyI, 80, .inl zt)), (q4, .inl (cyI, 5, .inl zp)), (q5, .inl (cyI, 40, .inl zm)), (q6, .inl (cyI, 40, .inl zk))]) (hS : va_S A s.heap H locs) (ls : Array Slot) (hl : lv_has ls 4 [(0, .ref q0), (1, .int kd), (2, .int vl)]) (hE : (m_log zs kd vl) = m_log_j61 kd vl w1_a_61), W p l e (headSpec wqX9_log ({ frames := 0, cells := 0, slots := 0, locals := 0 } : Room)).room s m ([.ref q0, .int kd, .int vl] : List Value).toArray below meth c H locs 0 0 (MQ below (va_Qv (fun u : (Nat → Int32) => u = (m_log zs kd vl)) (fun (u : (Nat → Int32)) t => va_P (dC, dI) vwCl [(q0, .inr (9, [.ref q1, .ref q2, .int svc, .ref q3, .int tl, .int cde, .int mm, .int mr, .ref q4, .int ati, .int ors, .ref q5, .ref q6])), (q1, .inl (cyI, 246, .inl u)), (q2, .inl (cyI, 984, .inl zv)), (q3, .inl (cyI, 80, .inl zt)), (q4, .inl (cyI, 5, .inl zp)), (q5, .inl (cyI, 40, .inl zm)), (q6, .inl (cyI, 40, .inl zk))] t.heap ∧ va_D A [(q0, .inr (9, [.ref q1, .ref q2, .int svc, .ref q3, .int tl, .int cde, .int mm, .int mr, .ref q4, .int ati, .int ors, .ref q5, .ref q6])), (q1, .inl (cyI, 246, .inl u)), (q2, .inl (cyI, 984, .inl zv)), (q3, .inl (cyI, 80, .inl zt)), (q4, .inl (cyI, 5, .inl zp)), (q5, .inl (cyI, 40, .inl zm)), (q6, .inl (cyI, 40, .inl zk))]) A) ([.ref q0, .int kd, .int vl] : List Value).toArray s 0 0 A) (F0 m 61 ls []) := by
    intro w1_a_61 hi H locs hP hD hS ls hl hE
    refine lv_sipush (v := 144) hx hb dX9_log_61 (by decide) ?_
    refine lv_iconst (v := 3) hx hb dX9_log_64 (by decide) ?_
    refine lv_aload_n hx hb dX9_log_65 rfl (lv_at hl 0 rfl) ?_
    refine va_get (D := (dC, dI)) (ci := 9) (v := .ref q1) (C := RX9) (T := TX9) (N := 13) hx hb hts i_X9 hown hK hP 0 rfl rfl 0 (by decide) w_0 (fun _ h9 => h9) rfl dX9_log_66 ?_
    refine lv_sipush (v := 143) hx hb dX9_log_69 (by decide) ?_
    refine ra_ld hx hb hK hP 1 0 rfl rfl (j := 143) (rfl : (143 : Int32) = nI 143) (by omega) (by omega) dX9_log_72 ?_
    refine lv_imul hx hb dX9_log_73 ?_
    refine lv_iadd hx hb dX9_log_74 ?_
    refine lv_topi (fun y_2 ey_2 => ?_)
    obtain rfl : y_2 = nI (144 + (3 * (w1_a_61 143).toNatClampNeg)) := ey_2.trans (nadd (rfl : (144 : Int32) = nI 144) (nmul (rfl : (3 : Int32) = nI 3) hi.1))
    refine lv_istore_n (lv' := [(3, .int (nI (144 + (3 * (w1_a_61 143).toNatClampNeg)))), (0, .ref q0), (1, .int kd), (2, .int vl)]) hx hb dX9_log_75 rfl hl (by decide) rfl (fun ls hl => ?_)
    refine lv_aload_n hx hb dX9_log_76 rfl (lv_at hl 1 rfl) ?_
    refine va_get (D := (dC, dI)) (ci := 9) (v := .ref q1) (C := RX9) (T := TX9) (N := 13) hx hb hts i_X9 hown hK hP 0 rfl rfl 0 (by decide) w_0 (fun _ h9 => h9) rfl dX9_log_77 ?_
    refine lv_iload_n hx hb dX9_log_80 rfl (lv_at hl 0 rfl) ?_
    refine lv_aload_n hx hb dX9_log_81 rfl (lv_at hl 1 rfl) ?_
    refine va_get (D := (dC, dI)) (ci := 9) (v := .ref q1) (C := RX9) (T := TX9) (N := 13) hx hb hts i_X9 hown hK hP 0 rfl rfl 0 (by decide) w_0 (fun _ h9 => h9) rfl dX9_log_82 ?_
    refine lv_bipush (v := 8) hx hb dX9_log_85 (by decide) ?_
    refine ra_ld hx hb hK hP 1 0 rfl rfl (j := 8) (rfl : (8 : Int32) = nI 8) (by omega) (by omega) dX9_log_87 ?_
    refine lv_topi (fun x_3 ex_3 => ?_)
    have hE := hE.trans (spLet_eq ex_3)
    refine ra_st hx hb hK hP hD hS 1 0 rfl rfl (j := (144 + (3 * (w1_a_61 143).toNatClampNeg))) (rfl : (nI (144 + (3 * (w1_a_61 143).toNatClampNeg))) = nI (144 + (3 * (w1_a_61 143).toNatClampNeg))) (by omega) (by omega) dX9_log_88 (fun H locs hP hD hS => ?_)
    have hP : va_P (dC, dI) vwCl [(q0, .inr (9, [.ref q1, .ref q2, .int svc, .ref q3, .int tl, .int cde, .int mm, .int mr, .ref q4, .int ati, .int ors, .ref q5, .ref q6])), (q1, .inl (cyI, 246, .inl (upd w1_a_61 (144 + (3 * (w1_a_61 143).toNatClampNeg)) x_3))), (q2, .inl (cyI, 984, .inl zv)), (q3, .inl (cyI, 80, .inl zt)), (q4, .inl (cyI, 5, .inl zp)), (q5, .inl (cyI, 40, .inl zm)), (q6, .inl (cyI, 40, .inl zk))] H := hP
    have hD : va_D A [(q0, .inr (9, [.ref q1, .ref q2, .int svc, .ref q3, .int tl, .int cde, .int mm, .int mr, .ref q4, .int ati, .int ors, .ref q5, .ref q6])), (q1, .inl (cyI, 246, .inl (upd w1_a_61 (144 + (3 * (w1_a_61 143).toNatClampNeg)) x_3))), (q2, .inl (cyI, 984, .inl zv)), (q3, .inl (cyI, 80, .inl zt)), (q4, .inl (cyI, 5, .inl zp)), (q5, .inl (cyI, 40, .inl zm)), (q6, .inl (cyI, 40, .inl zk))] := hD
    obtain ⟨f_4, ef_4⟩ : ∃ y : Nat → Int32, y = upd w1_a_61 (144 + (3 * (w1_a_61 143).toNatClampNeg)) x_3 := ⟨_, rfl⟩
    rw [← ef_4] at hP hD
    have hE := hE.trans (spLet_eq ef_4)
    refine lv_aload_n hx hb dX9_log_89 rfl (lv_at hl 1 rfl) ?_
    refine va_get (D := (dC, dI)) (ci := 9) (v := .ref q1) (C := RX9) (T := TX9) (N := 13) hx hb hts i_X9 hown hK hP 0 rfl rfl 0 (by decide) w_0 (fun _ h9 => h9) rfl dX9_log_90 ?_
    refine lv_iload_n hx hb dX9_log_93 rfl (lv_at hl 0 rfl) ?_
    refine lv_iconst (v := 1) hx hb dX9_log_94 (by decide) ?_
    refine lv_iadd hx hb dX9_log_95 ?_
    refine lv_topi (fun y_5 ey_5 => ?_)
    obtain rfl : y_5 = nI ((144 + (3 * (w1_a_61 143).toNatClampNeg)) + 1) := ey_5.trans (nadd (rfl : (nI (144 + (3 * (w1_a_61 143).toNatClampNeg))) = nI (144 + (3 * (w1_a_61 143).toNatClampNeg))) (rfl : (1 : Int32) = nI 1))
    refine lv_iload_n hx hb dX9_log_96 rfl (lv_at hl 2 rfl) ?_
    refine ra_st hx hb hK hP hD hS 1 0 rfl rfl (j := ((144 + (3 * (w1_a_61 143).toNatClampNeg)) + 1)) (rfl : (nI ((144 + (3 * (w1_a_61 143).toNatClampNeg)) + 1)) = nI ((144 + (3 * (w1_a_61 143).toNatClampNeg)) + 1)) (by omega) (by omega) dX9_log_97 (fun H locs hP hD hS => ?_)
    have hP : va_P (dC, dI) vwCl [(q0, .inr (9, [.ref q1, .ref q2, .int svc, .ref q3, .int tl, .int cde, .int mm, .int mr, .ref q4, .int ati, .int ors, .ref q5, .ref q6])), (q1, .inl (cyI, 246, .inl (upd f_4 ((144 + (3 * (w1_a_61 143).toNatClampNeg)) + 1) kd))), (q2, .inl (cyI, 984, .inl zv)), (q3, .inl (cyI, 80, .inl zt)), (q4, .inl (cyI, 5, .inl zp)), (q5, .inl (cyI, 40, .inl zm)), (q6, .inl (cyI, 40, .inl zk))] H := hP
    have hD : va_D A [(q0, .inr (9, [.ref q1, .ref q2, .int svc, .ref q3, .int tl, .int cde, .int mm, .int mr, .ref q4, .int ati, .int ors, .ref q5, .ref q6])), (q1, .inl (cyI, 246, .inl (upd f_4 ((144 + (3 * (w1_a_61 143).toNatClampNeg)) + 1) kd))), (q2, .inl (cyI, 984, .inl zv)), (q3, .inl (cyI, 80, .inl zt)), (q4, .inl (cyI, 5, .inl zp)), (q5, .inl (cyI, 40, .inl zm)), (q6, .inl (cyI, 40, .inl zk))] := hD
    obtain ⟨f_6, ef_6⟩ : ∃ y : Nat → Int32, y = upd f_4 ((144 + (3 * (w1_a_61 143).toNatClampNeg)) + 1) kd := ⟨_, rfl⟩
    rw [← ef_6] at hP hD
    have hE := hE.trans (spLet_eq ef_6)
    refine lv_aload_n hx hb dX9_log_98 rfl (lv_at hl 1 rfl) ?_
    refine va_get (D := (dC, dI)) (ci := 9) (v := .ref q1) (C := RX9) (T := TX9) (N := 13) hx hb hts i_X9 hown hK hP 0 rfl rfl 0 (by decide) w_0 (fun _ h9 => h9) rfl dX9_log_99 ?_
    refine lv_iload_n hx hb dX9_log_102 rfl (lv_at hl 0 rfl) ?_
    refine lv_iconst (v := 2) hx hb dX9_log_103 (by decide) ?_
    refine lv_iadd hx hb dX9_log_104 ?_
    refine lv_topi (fun y_7 ey_7 => ?_)
    obtain rfl : y_7 = nI ((144 + (3 * (w1_a_61 143).toNatClampNeg)) + 2) := ey_7.trans (nadd (rfl : (nI (144 + (3 * (w1_a_61 143).toNatClampNeg))) = nI (144 + (3 * (w1_a_61 143).toNatClampNeg))) (rfl : (2 : Int32) = nI 2))
    refine lv_iload_n hx hb dX9_log_105 rfl (lv_at hl 3 rfl) ?_
    refine ra_st hx hb hK hP hD hS 1 0 rfl rfl (j := ((144 + (3 * (w1_a_61 143).toNatClampNeg)) + 2)) (rfl : (nI ((144 + (3 * (w1_a_61 143).toNatClampNeg)) + 2)) = nI ((144 + (3 * (w1_a_61 143).toNatClampNeg)) + 2)) (by omega) (by omega) dX9_log_106 (fun H locs hP hD hS => ?_)
    have hP : va_P (dC, dI) vwCl [(q0, .inr (9, [.ref q1, .ref q2, .int svc, .ref q3, .int tl, .int cde, .int mm, .int mr, .ref q4, .int ati, .int ors, .ref q5, .ref q6])), (q1, .inl (cyI, 246, .inl (upd f_6 ((144 + (3 * (w1_a_61 143).toNatClampNeg)) + 2) vl))), (q2, .inl (cyI, 984, .inl zv)), (q3, .inl (cyI, 80, .inl zt)), (q4, .inl (cyI, 5, .inl zp)), (q5, .inl (cyI, 40, .inl zm)), (q6, .inl (cyI, 40, .inl zk))] H := hP
    have hD : va_D A [(q0, .inr (9, [.ref q1, .ref q2, .int svc, .ref q3, .int tl, .int cde, .int mm, .int mr, .ref q4, .int ati, .int ors, .ref q5, .ref q6])), (q1, .inl (cyI, 246, .inl (upd f_6 ((144 + (3 * (w1_a_61 143).toNatClampNeg)) + 2) vl))), (q2, .inl (cyI, 984, .inl zv)), (q3, .inl (cyI, 80, .inl zt)), (q4, .inl (cyI, 5, .inl zp)), (q5, .inl (cyI, 40, .inl zm)), (q6, .inl (cyI, 40, .inl zk))] := hD
    obtain ⟨f_8, ef_8⟩ : ∃ y : Nat → Int32, y = upd f_6 ((144 + (3 * (w1_a_61 143).toNatClampNeg)) + 2) vl := ⟨_, rfl⟩
    rw [← ef_8] at hP hD
    have hE := hE.trans (spLet_eq ef_8)
    refine lv_aload_n hx hb dX9_log_107 rfl (lv_at hl 1 rfl) ?_
    refine va_get (D := (dC, dI)) (ci := 9) (v := .ref q1) (C := RX9) (T := TX9) (N := 13) hx hb hts i_X9 hown hK hP 0 rfl rfl 0 (by decide) w_0 (fun _ h9 => h9) rfl dX9_log_108 ?_
    refine lv_sipush (v := 143) hx hb dX9_log_111 (by decide) ?_
    refine lv_dup2_11 hx hb dX9_log_114 rfl rfl ?_
    refine ra_ld hx hb hK hP 1 0 rfl rfl (j := 143) (rfl : (143 : Int32) = nI 143) (by omega) (by omega) dX9_log_115 ?_
    refine lv_iconst (v := 1) hx hb dX9_log_116 (by decide) ?_
    refine lv_iadd hx hb dX9_log_117 ?_
    refine lv_topi (fun x_9 ex_9 => ?_)
    have hE := hE.trans (spLet_eq ex_9)
    refine ra_st hx hb hK hP hD hS 1 0 rfl rfl (j := 143) (rfl : (143 : Int32) = nI 143) (by omega) (by omega) dX9_log_118 (fun H locs hP hD hS => ?_)
    have hP : va_P (dC, dI) vwCl [(q0, .inr (9, [.ref q1, .ref q2, .int svc, .ref q3, .int tl, .int cde, .int mm, .int mr, .ref q4, .int ati, .int ors, .ref q5, .ref q6])), (q1, .inl (cyI, 246, .inl (upd f_8 143 x_9))), (q2, .inl (cyI, 984, .inl zv)), (q3, .inl (cyI, 80, .inl zt)), (q4, .inl (cyI, 5, .inl zp)), (q5, .inl (cyI, 40, .inl zm)), (q6, .inl (cyI, 40, .inl zk))] H := hP
    have hD : va_D A [(q0, .inr (9, [.ref q1, .ref q2, .int svc, .ref q3, .int tl, .int cde, .int mm, .int mr, .ref q4, .int ati, .int ors, .ref q5, .ref q6])), (q1, .inl (cyI, 246, .inl (upd f_8 143 x_9))), (q2, .inl (cyI, 984, .inl zv)), (q3, .inl (cyI, 80, .inl zt)), (q4, .inl (cyI, 5, .inl zp)), (q5, .inl (cyI, 40, .inl zm)), (q6, .inl (cyI, 40, .inl zk))] := hD
    obtain ⟨f_10, ef_10⟩ : ∃ y : Nat → Int32, y = upd f_8 143 x_9 := ⟨_, rfl⟩
    rw [← ef_10] at hP hD
    have hE := hE.trans (spLet_eq ef_10)
    exact W.vret hx hb hr (fun t h9 hW => ⟨⟨(f_10 : (Nat → Int32)), rfl, hE.symm, by rw [h9]; exact hP, hD⟩, hS.F h9⟩) hS.2.2 dX9_log_119
  refine lv_icmp_ne (tgt := 61) hx hb dX9_log_10 (by decide) (fun c_1 => ?_) (fun c_1 => ?_)
  ·
    have c_1 : ¬ (zs 143).toNatClampNeg = 30 := by
      have h1 : ((zs 143)) = nI ((zs 143).toNatClampNeg) := hz
      have h2 : ((30 : Int32)) = nI 30 := rfl
      have h3 : ¬ (nI ((zs 143).toNatClampNeg) = nI 30) := by first | exact c_1 | (rw [← h1, ← h2]; exact c_1)
      exact fun h => h3 ((nI_eq (by omega) (by omega)).mpr h)
    have hE := hE.trans (if_neg c_1)
    exact J61 zs ⟨hz, by omega⟩ _ _ hP hD hS ls (lv_sub hl [0, 1, 2] rfl) hE
  ·
    have c_1 : (zs 143).toNatClampNeg = 30 := by
      have h1 : ((zs 143)) = nI ((zs 143).toNatClampNeg) := hz
      have h2 : ((30 : Int32)) = nI 30 := rfl
      have h3 : (nI ((zs 143).toNatClampNeg) = nI 30) := by first | exact c_1 | (rw [← h1, ← h2]; exact c_1)
      exact (nI_eq (by omega) (by omega)).mp h3
    have hE := hE.trans (if_pos c_1)
    refine lv_iconst (v := 0) hx hb dX9_log_13 (by decide) ?_
    refine lv_istore_n (lv' := [(3, .int (0 : Int32)), (0, .ref q0), (1, .int kd), (2, .int vl)]) hx hb dX9_log_14 rfl hl (by decide) rfl (fun ls hl => ?_)
    have L15 : ∀ (n15 : Nat) (k3_15 : Nat) (w1_a_15 : Nat → Int32) (hi : w1_a_15 143 = zs 143 ∧ k3_15 ≤ 87 ∧ 87 < k3_15 + n15) (H : Heap) (locs : List Loc) (hP : va_P (dC, dI) vwCl [(q0, .inr (9, [.ref q1, .ref q2, .int svc, .ref q3, .int tl, .int cde, .int mm, .int mr, .ref q4, .int ati, .int ors, .ref q5, .ref q6])), (q1, .inl (cyI, 246, .inl w1_a_15)), (q2, .inl (cyI, 984, .inl zv)), (q3, .inl (cyI, 80, .inl zt)), (q4, .inl (cyI, 5, .inl zp)), (q5, .inl (cyI, 40, .inl zm)), (q6, .inl (cyI, 40, .inl zk))] H) (hD : va_D A [(q0, .inr (9, [.ref q1, .ref q2, .int svc, .ref q3, .int tl, .int cde, .int mm, .int mr, .ref q4, .int ati, .int ors, .ref q5, .ref q6])), (q1, .inl (cyI, 246, .inl w1_a_15)), (q2, .inl (cyI, 984, .inl zv)), (q3, .inl (cyI, 80, .inl zt)), (q4, .inl (cyI, 5, .inl zp)), (q5, .inl (cyI, 40, .inl zm)), (q6, .inl (cyI, 40, .inl zk))]) (hS : va_S A s.heap H locs) (ls : Array Slot) (hl : lv_has ls 4 [(0, .ref q0), (1, .int kd), (2, .int vl), (3, .int (nI k3_15))]) (hE : (m_log zs kd vl) = spIter (fun _ _ => default) (m_log_b15 kd vl) n15 k3_15 w1_a_15), W p l e (headSpec wqX9_log ({ frames := 0, cells := 0, slots := 0, locals := 0 } : Room)).room s m ([.ref q0, .int kd, .int vl] : List Value).toArray below meth c H locs 0 0 (MQ below (va_Qv (fun u : (Nat → Int32) => u = (m_log zs kd vl)) (fun (u : (Nat → Int32)) t => va_P (dC, dI) vwCl [(q0, .inr (9, [.ref q1, .ref q2, .int svc, .ref q3, .int tl, .int cde, .int mm, .int mr, .ref q4, .int ati, .int ors, .ref q5, .ref q6])), (q1, .inl (cyI, 246, .inl u)), (q2, .inl (cyI, 984, .inl zv)), (q3, .inl (cyI, 80, .inl zt)), (q4, .inl (cyI, 5, .inl zp)), (q5, .inl (cyI, 40, .inl zm)), (q6, .inl (cyI, 40, .inl zk))] t.heap ∧ va_D A [(q0, .inr (9, [.ref q1, .ref q2, .int svc, .ref q3, .int tl, .int cde, .int mm, .int mr, .ref q4, .int ati, .int ors, .ref q5, .ref q6])), (q1, .inl (cyI, 246, .inl u)), (q2, .inl (cyI, 984, .inl zv)), (q3, .inl (cyI, 80, .inl zt)), (q4, .inl (cyI, 5, .inl zp)), (q5, .inl (cyI, 40, .inl zm)), (q6, .inl (cyI, 40, .inl zk))]) A) ([.ref q0, .int kd, .int vl] : List Value).toArray s 0 0 A) (F0 m 15 ls []) := by
      intro n15
      induction n15 with
      | zero =>
        intro k3_15 w1_a_15 hi H locs hP hD hS ls hl hE
        exact absurd hi (by omega)
      | succ n15 ih15 =>
        intro k3_15 w1_a_15 hi H locs hP hD hS ls hl hE
        have hE : (m_log zs kd vl) = m_log_b15 kd vl (spIter (fun _ _ => default) (m_log_b15 kd vl) n15) k3_15 w1_a_15 := hE
        refine lv_iload_n hx hb dX9_log_15 rfl (lv_at hl 3 rfl) ?_
        refine lv_bipush (v := 87) hx hb dX9_log_16 (by decide) ?_
        refine lv_icmp_ge (tgt := 49) hx hb dX9_log_18 (by decide) (fun c_11 => ?_) (fun c_11 => ?_)
        ·
          have c_11 : 87 ≤ k3_15 := by
            have h1 : ((nI k3_15)) = nI k3_15 := rfl
            have h2 : ((87 : Int32)) = nI 87 := rfl
            have h3 : (nI 87 ≤ nI k3_15) := by first | exact c_11 | (rw [← h1, ← h2]; exact c_11)
            exact (nI_leI (by omega) (by omega)).mp h3
          have hE := hE.trans (if_pos c_11)
          refine lv_aload_n hx hb dX9_log_49 rfl (lv_at hl 0 rfl) ?_
          refine va_get (D := (dC, dI)) (ci := 9) (v := .ref q1) (C := RX9) (T := TX9) (N := 13) hx hb hts i_X9 hown hK hP 0 rfl rfl 0 (by decide) w_0 (fun _ h9 => h9) rfl dX9_log_50 ?_
          refine lv_sipush (v := 143) hx hb dX9_log_53 (by decide) ?_
          refine lv_dup2_11 hx hb dX9_log_56 rfl rfl ?_
          refine ra_ld hx hb hK hP 1 0 rfl rfl (j := 143) (rfl : (143 : Int32) = nI 143) (by omega) (by omega) dX9_log_57 ?_
          refine lv_iconst (v := 1) hx hb dX9_log_58 (by decide) ?_
          refine lv_isub hx hb dX9_log_59 ?_
          refine lv_topi (fun x_12 ex_12 => ?_)
          have hE := hE.trans (spLet_eq ex_12)
          refine ra_st hx hb hK hP hD hS 1 0 rfl rfl (j := 143) (rfl : (143 : Int32) = nI 143) (by omega) (by omega) dX9_log_60 (fun H locs hP hD hS => ?_)
          have hP : va_P (dC, dI) vwCl [(q0, .inr (9, [.ref q1, .ref q2, .int svc, .ref q3, .int tl, .int cde, .int mm, .int mr, .ref q4, .int ati, .int ors, .ref q5, .ref q6])), (q1, .inl (cyI, 246, .inl (upd w1_a_15 143 x_12))), (q2, .inl (cyI, 984, .inl zv)), (q3, .inl (cyI, 80, .inl zt)), (q4, .inl (cyI, 5, .inl zp)), (q5, .inl (cyI, 40, .inl zm)), (q6, .inl (cyI, 40, .inl zk))] H := hP
          have hD : va_D A [(q0, .inr (9, [.ref q1, .ref q2, .int svc, .ref q3, .int tl, .int cde, .int mm, .int mr, .ref q4, .int ati, .int ors, .ref q5, .ref q6])), (q1, .inl (cyI, 246, .inl (upd w1_a_15 143 x_12))), (q2, .inl (cyI, 984, .inl zv)), (q3, .inl (cyI, 80, .inl zt)), (q4, .inl (cyI, 5, .inl zp)), (q5, .inl (cyI, 40, .inl zm)), (q6, .inl (cyI, 40, .inl zk))] := hD
          obtain ⟨f_13, ef_13⟩ : ∃ y : Nat → Int32, y = upd w1_a_15 143 x_12 := ⟨_, rfl⟩
          rw [← ef_13] at hP hD
          have hE := hE.trans (spLet_eq ef_13)
          exact J61 f_13 (log_j1 ef_13 ex_12 hi.1 hz (by assumption)) _ _ hP hD hS ls (lv_sub hl [0, 1, 2] rfl) hE
        ·
          have c_11 : ¬ 87 ≤ k3_15 := by
            have h1 : ((nI k3_15)) = nI k3_15 := rfl
            have h2 : ((87 : Int32)) = nI 87 := rfl
            have h3 : ¬ (nI 87 ≤ nI k3_15) := by first | exact c_11 | (rw [← h1, ← h2]; exact c_11)
            exact fun h => h3 ((nI_leI (by omega) (by omega)).mpr h)
          have hE := hE.trans (if_neg c_11)
          refine lv_aload_n hx hb dX9_log_21 rfl (lv_at hl 0 rfl) ?_
          refine va_get (D := (dC, dI)) (ci := 9) (v := .ref q1) (C := RX9) (T := TX9) (N := 13) hx hb hts i_X9 hown hK hP 0 rfl rfl 0 (by decide) w_0 (fun _ h9 => h9) rfl dX9_log_22 ?_
          refine lv_sipush (v := 144) hx hb dX9_log_25 (by decide) ?_
          refine lv_iload_n hx hb dX9_log_28 rfl (lv_at hl 3 rfl) ?_
          refine lv_iadd hx hb dX9_log_29 ?_
          refine lv_topi (fun y_14 ey_14 => ?_)
          obtain rfl : y_14 = nI (144 + k3_15) := ey_14.trans (nadd (rfl : (144 : Int32) = nI 144) (rfl : (nI k3_15) = nI k3_15))
          refine lv_aload_n hx hb dX9_log_30 rfl (lv_at hl 0 rfl) ?_
          refine va_get (D := (dC, dI)) (ci := 9) (v := .ref q1) (C := RX9) (T := TX9) (N := 13) hx hb hts i_X9 hown hK hP 0 rfl rfl 0 (by decide) w_0 (fun _ h9 => h9) rfl dX9_log_31 ?_
          refine lv_sipush (v := 144) hx hb dX9_log_34 (by decide) ?_
          refine lv_iload_n hx hb dX9_log_37 rfl (lv_at hl 3 rfl) ?_
          refine lv_iadd hx hb dX9_log_38 ?_
          refine lv_topi (fun y_15 ey_15 => ?_)
          obtain rfl : y_15 = nI (144 + k3_15) := ey_15.trans (nadd (rfl : (144 : Int32) = nI 144) (rfl : (nI k3_15) = nI k3_15))
          refine lv_iconst (v := 3) hx hb dX9_log_39 (by decide) ?_
          refine lv_iadd hx hb dX9_log_40 ?_
          refine ra_ld hx hb hK hP 1 0 rfl rfl (j := ((144 + k3_15) + 3)) (nadd (rfl : (nI (144 + k3_15)) = nI (144 + k3_15)) (rfl : (3 : Int32) = nI 3)) (by omega) (by omega) dX9_log_41 ?_
          refine lv_topi (fun x_16 ex_16 => ?_)
          have hE := hE.trans (spLet_eq ex_16)
          refine ra_st hx hb hK hP hD hS 1 0 rfl rfl (j := (144 + k3_15)) (rfl : (nI (144 + k3_15)) = nI (144 + k3_15)) (by omega) (by omega) dX9_log_42 (fun H locs hP hD hS => ?_)
          have hP : va_P (dC, dI) vwCl [(q0, .inr (9, [.ref q1, .ref q2, .int svc, .ref q3, .int tl, .int cde, .int mm, .int mr, .ref q4, .int ati, .int ors, .ref q5, .ref q6])), (q1, .inl (cyI, 246, .inl (upd w1_a_15 (144 + k3_15) x_16))), (q2, .inl (cyI, 984, .inl zv)), (q3, .inl (cyI, 80, .inl zt)), (q4, .inl (cyI, 5, .inl zp)), (q5, .inl (cyI, 40, .inl zm)), (q6, .inl (cyI, 40, .inl zk))] H := hP
          have hD : va_D A [(q0, .inr (9, [.ref q1, .ref q2, .int svc, .ref q3, .int tl, .int cde, .int mm, .int mr, .ref q4, .int ati, .int ors, .ref q5, .ref q6])), (q1, .inl (cyI, 246, .inl (upd w1_a_15 (144 + k3_15) x_16))), (q2, .inl (cyI, 984, .inl zv)), (q3, .inl (cyI, 80, .inl zt)), (q4, .inl (cyI, 5, .inl zp)), (q5, .inl (cyI, 40, .inl zm)), (q6, .inl (cyI, 40, .inl zk))] := hD
          obtain ⟨f_17, ef_17⟩ : ∃ y : Nat → Int32, y = upd w1_a_15 (144 + k3_15) x_16 := ⟨_, rfl⟩
          rw [← ef_17] at hP hD
          have hE := hE.trans (spLet_eq ef_17)
          refine lv_iinc (v := (nI (k3_15 + 1))) (lv' := [(3, .int (nI (k3_15 + 1))), (0, .ref q0), (1, .int kd), (2, .int vl)]) hx hb dX9_log_43 hl (k := 3) rfl (show _ from (congrArg (fun z => z + Int32.ofInt 1) (rfl)).trans (ninc _ 1)) (by decide) rfl (fun ls hl => ?_)
          refine lv_goto (tgt := 15) hx hb dX9_log_46 (by decide) ?_
          exact ih15 (k3_15 + 1) f_17 ⟨(by rw [ef_17, pk_un (by omega)]; exact hi.1), by omega, by omega⟩ _ _ hP hD hS ls (lv_sub hl [1, 2, 3, 0] rfl) hE
    exact L15 88 0 zs ⟨rfl, by omega, by omega⟩ _ _ hP hD hS ls (lv_sub hl [1, 2, 3, 0] rfl) hE
def m_nextState_j66 (ut : Int32) (t0_66 : Int32) : Int32 :=
  if (900 : Int32) ≤ ut then (1 : Int32) else (if t0_66 = 0 then (0 : Int32) else (if ut < (850 : Int32) then (0 : Int32) else (1 : Int32)))
def m_nextState_j61 (ut : Int32) : Int32 :=
  m_nextState_j66 ut (1 : Int32)
def m_nextState_j39 (zs : Nat → Int32) (ut : Int32) : Int32 :=
  if (zs 7) = (1 : Int32) then (m_nextState_j61 ut) else (if (zs 7) = (2 : Int32) then (m_nextState_j61 ut) else (m_nextState_j66 ut (0 : Int32)))
def m_nextState (zs : Nat → Int32) (ut : Int32) : Int32 :=
  if (zs 9) ≤ 0 then (if (1000 : Int32) ≤ ut then (2 : Int32) else (if (zs 7) = (2 : Int32) then (if ut < (950 : Int32) then (m_nextState_j39 zs ut) else (2 : Int32)) else (m_nextState_j39 zs ut))) else (3 : Int32)
set_option maxHeartbeats 1000000 in
set_option maxRecDepth 100000 in
theorem c_X9_nextState (l : Launch) (dC : Nat → ClassId) (dI : Nat → Nat → Nat) (cyI : ClassId) (q0 : Nat) (q1 : Nat) (q2 : Nat) (q3 : Nat) (q4 : Nat) (q5 : Nat) (q6 : Nat) (svc : Int32) (tl : Int32) (cde : Int32) (mm : Int32) (mr : Int32) (ati : Int32) (ors : Int32) (zs : Nat → Int32) (zv : Nat → Int32) (zt : Nat → Int32) (zp : Nat → Int32) (zm : Nat → Int32) (zk : Nat → Int32) (ut : Int32) : Met l yX9_nextState wqX9_nextState ({ frames := 0, cells := 0, slots := 0, locals := 0 } : Room) (va_Pc [.ref q0, .int ut] (pB (dC, dI) [(q0, .inr (9, [.ref q1, .ref q2, .int svc, .ref q3, .int tl, .int cde, .int mm, .int mr, .ref q4, .int ati, .int ors, .ref q5, .ref q6])), (q1, .inl (cyI, 246, .inl zs)), (q2, .inl (cyI, 984, .inl zv)), (q3, .inl (cyI, 80, .inl zt)), (q4, .inl (cyI, 5, .inl zp)), (q5, .inl (cyI, 40, .inl zm)), (q6, .inl (cyI, 40, .inl zk))] [(cyI, .int)] eM)) (vp_Si (fun r => r = (m_nextState zs ut))) 0 0 aF := by
  refine Met.ofW (cc := cX9_nextState) (maxL := 3) (ret := (some .int)) (by decide) rfl ?_
  intro p e s m args below meth c s₁ B hml hv
  obtain ⟨rfl, hP, hK, he⟩ := hv
  have hx := B.exec
  have hb := B.bytes
  have hr := B.returns
  have hts := atoms_spec (ws := wqX9_nextState) B.pre
  have hown : s.vm.findClass RX9 = some m.cls := findClass_of_methodNamed B.named
  have hlocks := B.notSynchronized
  have w_0 := hts (Cond.fieldLink RX9 7 "CraneLimiterModel" "s" "[I") (List.mem_cons_of_mem _ b_93)
  have i_X9 : ∀ w ∈ u_ws RX9 TX9 13, w ∈ wqX9_nextState := fun w h => List.mem_cons_of_mem _ (bX9 w h)
  have hS : va_S aF s.heap s.heap [] := va_S.rf
  have hP : va_P (dC, dI) vwCl [(q0, .inr (9, [.ref q1, .ref q2, .int svc, .ref q3, .int tl, .int cde, .int mm, .int mr, .ref q4, .int ati, .int ors, .ref q5, .ref q6])), (q1, .inl (cyI, 246, .inl zs)), (q2, .inl (cyI, 984, .inl zv)), (q3, .inl (cyI, 80, .inl zt)), (q4, .inl (cyI, 5, .inl zp)), (q5, .inl (cyI, 40, .inl zm)), (q6, .inl (cyI, 40, .inl zk))] s.heap := hP
  have hl := lv_entry ([.ref q0, .int ut] : List Value) (n := 3) (Nat.le_of_ble_eq_true rfl)
  rw [lg_entry_eq]
  generalize (lg_sl ([.ref q0, .int ut] : List Value) ++ List.replicate (3 - (lg_sl ([.ref q0, .int ut] : List Value)).length) Slot.unset).toArray = ls at hl ⊢
  have hl : lv_has ls 3 [(0, .ref q0), (1, .int ut)] := hl
  have hE : m_nextState zs ut = m_nextState zs ut := rfl
  refine lv_aload_n hx hb dX9_nextState_0 rfl (lv_at hl 0 rfl) ?_
  refine va_get (D := (dC, dI)) (ci := 9) (v := .ref q1) (C := RX9) (T := TX9) (N := 13) hx hb hts i_X9 hown hK hP 0 rfl rfl 0 (by decide) w_0 (fun _ h9 => h9) rfl dX9_nextState_1 ?_
  refine lv_bipush (v := 9) hx hb dX9_nextState_4 (by decide) ?_
  refine ra_ld hx hb hK hP 1 0 rfl rfl (j := 9) (rfl : (9 : Int32) = nI 9) (by omega) (by omega) dX9_nextState_6 ?_
  refine lv_if_le (tgt := 12) hx hb dX9_nextState_7 (by decide) (fun c_1 => ?_) (fun c_1 => ?_)
  ·
    have hE := hE.trans (if_pos c_1)
    refine lv_iload_n hx hb dX9_nextState_12 rfl (lv_at hl 1 rfl) ?_
    refine lv_sipush (v := 1000) hx hb dX9_nextState_13 (by decide) ?_
    refine lv_icmp_ge (tgt := 37) hx hb dX9_nextState_16 (by decide) (fun c_2 => ?_) (fun c_2 => ?_)
    ·
      have hE := hE.trans (if_pos c_2)
      refine lv_iconst (v := 2) hx hb dX9_nextState_37 (by decide) ?_
      exact W.iret (v := (2 : Int32)) hx hb hr (fun t ht hW => ⟨_, rfl, hE.symm, ht⟩) (fun q h => by cases h) dX9_nextState_38
    ·
      have hE := hE.trans (if_neg c_2)
      refine lv_aload_n hx hb dX9_nextState_19 rfl (lv_at hl 0 rfl) ?_
      refine va_get (D := (dC, dI)) (ci := 9) (v := .ref q1) (C := RX9) (T := TX9) (N := 13) hx hb hts i_X9 hown hK hP 0 rfl rfl 0 (by decide) w_0 (fun _ h9 => h9) rfl dX9_nextState_20 ?_
      refine lv_bipush (v := 7) hx hb dX9_nextState_23 (by decide) ?_
      refine ra_ld hx hb hK hP 1 0 rfl rfl (j := 7) (rfl : (7 : Int32) = nI 7) (by omega) (by omega) dX9_nextState_25 ?_
      refine lv_iconst (v := 2) hx hb dX9_nextState_26 (by decide) ?_
      have J39 : ∀ (ls : Array Slot) (hl : lv_has ls 3 [(0, .ref q0), (1, .int ut)]) (hE : (m_nextState zs ut) = m_nextState_j39 zs ut), W p l e (headSpec wqX9_nextState ({ frames := 0, cells := 0, slots := 0, locals := 0 } : Room)).room s m ([.ref q0, .int ut] : List Value).toArray below meth c s.heap [] 0 0 (MQ below (vp_Si (fun r => r = (m_nextState zs ut))) ([.ref q0, .int ut] : List Value).toArray s 0 0 aF) (F0 m 39 ls []) := by
        intro ls hl hE
        refine lv_aload_n hx hb dX9_nextState_39 rfl (lv_at hl 0 rfl) ?_
        refine va_get (D := (dC, dI)) (ci := 9) (v := .ref q1) (C := RX9) (T := TX9) (N := 13) hx hb hts i_X9 hown hK hP 0 rfl rfl 0 (by decide) w_0 (fun _ h9 => h9) rfl dX9_nextState_40 ?_
        refine lv_bipush (v := 7) hx hb dX9_nextState_43 (by decide) ?_
        refine ra_ld hx hb hK hP 1 0 rfl rfl (j := 7) (rfl : (7 : Int32) = nI 7) (by omega) (by omega) dX9_nextState_45 ?_
        refine lv_iconst (v := 1) hx hb dX9_nextState_46 (by decide) ?_
        have J66 : ∀ (t0_66 : Int32) (ls : Array Slot) (hl : lv_has ls 3 [(1, .int ut)]) (hE : (m_nextState zs ut) = m_nextState_j66 ut t0_66), W p l e (headSpec wqX9_nextState ({ frames := 0, cells := 0, slots := 0, locals := 0 } : Room)).room s m ([.ref q0, .int ut] : List Value).toArray below meth c s.heap [] 0 0 (MQ below (vp_Si (fun r => r = (m_nextState zs ut))) ([.ref q0, .int ut] : List Value).toArray s 0 0 aF) (F0 m 66 ls [.int t0_66]) := by
          intro t0_66 ls hl hE
          refine lv_istore_n (lv' := [(2, .int t0_66), (1, .int ut)]) hx hb dX9_nextState_66 rfl hl (by decide) rfl (fun ls hl => ?_)
          refine lv_iload_n hx hb dX9_nextState_67 rfl (lv_at hl 1 rfl) ?_
          refine lv_sipush (v := 900) hx hb dX9_nextState_68 (by decide) ?_
          refine lv_icmp_ge (tgt := 85) hx hb dX9_nextState_71 (by decide) (fun c_5 => ?_) (fun c_5 => ?_)
          ·
            have hE := hE.trans (if_pos c_5)
            refine lv_iconst (v := 1) hx hb dX9_nextState_85 (by decide) ?_
            refine lv_goto (tgt := 90) hx hb dX9_nextState_86 (by decide) ?_
            exact W.iret (v := (1 : Int32)) hx hb hr (fun t ht hW => ⟨_, rfl, hE.symm, ht⟩) (fun q h => by cases h) dX9_nextState_90
          ·
            have hE := hE.trans (if_neg c_5)
            refine lv_iload_n hx hb dX9_nextState_74 rfl (lv_at hl 0 rfl) ?_
            refine lv_if_eq (tgt := 89) hx hb dX9_nextState_75 (by decide) (fun c_6 => ?_) (fun c_6 => ?_)
            ·
              have hE := hE.trans (if_pos c_6)
              refine lv_iconst (v := 0) hx hb dX9_nextState_89 (by decide) ?_
              exact W.iret (v := (0 : Int32)) hx hb hr (fun t ht hW => ⟨_, rfl, hE.symm, ht⟩) (fun q h => by cases h) dX9_nextState_90
            ·
              have hE := hE.trans (if_neg c_6)
              refine lv_iload_n hx hb dX9_nextState_78 rfl (lv_at hl 1 rfl) ?_
              refine lv_sipush (v := 850) hx hb dX9_nextState_79 (by decide) ?_
              refine lv_icmp_lt (tgt := 89) hx hb dX9_nextState_82 (by decide) (fun c_7 => ?_) (fun c_7 => ?_)
              ·
                have hE := hE.trans (if_pos c_7)
                refine lv_iconst (v := 0) hx hb dX9_nextState_89 (by decide) ?_
                exact W.iret (v := (0 : Int32)) hx hb hr (fun t ht hW => ⟨_, rfl, hE.symm, ht⟩) (fun q h => by cases h) dX9_nextState_90
              ·
                have hE := hE.trans (if_neg c_7)
                refine lv_iconst (v := 1) hx hb dX9_nextState_85 (by decide) ?_
                refine lv_goto (tgt := 90) hx hb dX9_nextState_86 (by decide) ?_
                exact W.iret (v := (1 : Int32)) hx hb hr (fun t ht hW => ⟨_, rfl, hE.symm, ht⟩) (fun q h => by cases h) dX9_nextState_90
        have J61 : ∀ (ls : Array Slot) (hl : lv_has ls 3 [(1, .int ut)]) (hE : (m_nextState zs ut) = m_nextState_j61 ut), W p l e (headSpec wqX9_nextState ({ frames := 0, cells := 0, slots := 0, locals := 0 } : Room)).room s m ([.ref q0, .int ut] : List Value).toArray below meth c s.heap [] 0 0 (MQ below (vp_Si (fun r => r = (m_nextState zs ut))) ([.ref q0, .int ut] : List Value).toArray s 0 0 aF) (F0 m 61 ls []) := by
          intro ls hl hE
          refine lv_iconst (v := 1) hx hb dX9_nextState_61 (by decide) ?_
          refine lv_goto (tgt := 66) hx hb dX9_nextState_62 (by decide) ?_
          exact J66 (1 : Int32) ls (lv_sub hl [0] rfl) hE
        refine lv_icmp_eq (tgt := 61) hx hb dX9_nextState_47 (by decide) (fun c_4 => ?_) (fun c_4 => ?_)
        ·
          have hE := hE.trans (if_pos c_4)
          exact J61 ls (lv_sub hl [1] rfl) hE
        ·
          have hE := hE.trans (if_neg c_4)
          refine lv_aload_n hx hb dX9_nextState_50 rfl (lv_at hl 0 rfl) ?_
          refine va_get (D := (dC, dI)) (ci := 9) (v := .ref q1) (C := RX9) (T := TX9) (N := 13) hx hb hts i_X9 hown hK hP 0 rfl rfl 0 (by decide) w_0 (fun _ h9 => h9) rfl dX9_nextState_51 ?_
          refine lv_bipush (v := 7) hx hb dX9_nextState_54 (by decide) ?_
          refine ra_ld hx hb hK hP 1 0 rfl rfl (j := 7) (rfl : (7 : Int32) = nI 7) (by omega) (by omega) dX9_nextState_56 ?_
          refine lv_iconst (v := 2) hx hb dX9_nextState_57 (by decide) ?_
          refine lv_icmp_ne (tgt := 65) hx hb dX9_nextState_58 (by decide) (fun c_8 => ?_) (fun c_8 => ?_)
          ·
            have hE := hE.trans (if_neg c_8)
            refine lv_iconst (v := 0) hx hb dX9_nextState_65 (by decide) ?_
            exact J66 (0 : Int32) ls (lv_sub hl [1] rfl) hE
          ·
            have hE := hE.trans (if_pos c_8)
            exact J61 ls (lv_sub hl [1] rfl) hE
      refine lv_icmp_ne (tgt := 39) hx hb dX9_nextState_27 (by decide) (fun c_3 => ?_) (fun c_3 => ?_)
      ·
        have hE := hE.trans (if_neg c_3)
        exact J39 ls (lv_sub hl [0, 1] rfl) hE
      ·
        have hE := hE.trans (if_pos c_3)
        refine lv_iload_n hx hb dX9_nextState_30 rfl (lv_at hl 1 rfl) ?_
        refine lv_sipush (v := 950) hx hb dX9_nextState_31 (by decide) ?_
        refine lv_icmp_lt (tgt := 39) hx hb dX9_nextState_34 (by decide) (fun c_9 => ?_) (fun c_9 => ?_)
        ·
          have hE := hE.trans (if_pos c_9)
          exact J39 ls (lv_sub hl [0, 1] rfl) hE
        ·
          have hE := hE.trans (if_neg c_9)
          refine lv_iconst (v := 2) hx hb dX9_nextState_37 (by decide) ?_
          exact W.iret (v := (2 : Int32)) hx hb hr (fun t ht hW => ⟨_, rfl, hE.symm, ht⟩) (fun q h => by cases h) dX9_nextState_38
  ·
    have hE := hE.trans (if_neg c_1)
    refine lv_iconst (v := 3) hx hb dX9_nextState_10 (by decide) ?_
    exact W.iret (v := (3 : Int32)) hx hb hr (fun t ht hW => ⟨_, rfl, hE.symm, ht⟩) (fun q h => by cases h) dX9_nextState_11

