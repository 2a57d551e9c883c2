def x_X1_capacityAt (cv : Nat → Int32) (ta : Int32) (le : Int32) (ra : Int32) : Int32 :=
  if ra ≤ (3000 : Int32) then (spLet (x_X1_belowL le) (fun r_2 => spLet (x_X1_belowR ra) (fun r_3 => spLet (((if ra < (300 : Int32) then (300 : Int32) else ra) - (tRad ((r_3).toNatClampNeg)))) (fun x_4 => spLet (((tRad ((r_3).toNatClampNeg + 1)) - (tRad ((r_3).toNatClampNeg)))) (fun x_5 => spLet ((le - (tLen ((r_2).toNatClampNeg)))) (fun x_6 => spLet (((tLen ((r_2).toNatClampNeg + 1)) - (tLen ((r_2).toNatClampNeg)))) (fun x_7 => spLet (x_X1_valueAt cv ta r_2 r_3) (fun r_8 => spLet (x_X1_valueAt cv ta r_2 (nI ((r_3).toNatClampNeg + 1))) (fun r_10 => spLet (((r_8.toInt64 * ((x_5 - x_4).toInt64)) + (r_10.toInt64 * x_4.toInt64))) (fun x_11 => spLet (x_X1_valueAt cv ta (nI ((r_2).toNatClampNeg + 1)) r_3) (fun r_13 => spLet (x_X1_valueAt cv ta (nI ((r_2).toNatClampNeg + 1)) (nI ((r_3).toNatClampNeg + 1))) (fun r_16 => spLet (((r_13.toInt64 * ((x_5 - x_4).toInt64)) + (r_16.toInt64 * x_4.toInt64))) (fun x_17 => spLet ((x_5.toInt64 * x_7.toInt64)) (fun x_18 => if 0 < (lg_cmp x_18 (0 : Int64)) then ((((x_11 * ((x_7 - x_6).toInt64)) + (x_17 * x_6.toInt64)) / x_18).toInt32) else (0 : Int32))))))))))))))) else (0 : Int32)
set_option maxHeartbeats 1000000 in
set_option maxRecDepth 100000 in
theorem c_X1_capacityAt (l : Launch) (dC : Nat → ClassId) (dI : Nat → Nat → Nat) (cyI : ClassId) (qc : Nat) (qcv : Nat) (qce : Nat) (qcs : Nat) (cw : Int32) (cv : Nat → Int32) (ce : Nat → Int32) (cs : Nat → Int32) (ta : Int32) (le : Int32) (ra : Int32) : Met l yX1_capacityAt wqX1_capacityAt ({ frames := 1, cells := 0, slots := 0, locals := 24 } : Room) (va_Pc [.ref qc, .int ta, .int le, .int ra] (pB (dC, dI) [(qc, .inr (1, [.ref qcv, .ref qce, .ref qcs, .int cw])), (qcv, .inl (cyI, 96, .inl cv)), (qce, .inl (cyI, 4, .inl ce)), (qcs, .inl (cyI, 4, .inl cs))] [(cyI, .int)] eX)) (vp_Si (fun r => r = (x_X1_capacityAt cv ta le ra))) 0 0 aF := by
  refine Met.ofW (cc := cX1_capacityAt) (maxL := 16) (ret := (some .int)) (by decide) rfl ?_
  intro p e s m args below meth c s₁ B hml hv
  obtain ⟨rfl, hP, hK, he⟩ := hv
  have hx := B.exec
  have hb := B.bytes
  have hr := B.returns
  have hts := atoms_spec (ws := wqX1_capacityAt) B.pre
  have hown : s.vm.findClass RX1 = some m.cls := findClass_of_methodNamed B.named
  have hlocks := B.notSynchronized
  have w_0 := hts (Cond.fieldLink RX1 69 "CraneLimiter$Chart" "LENGTHS" "[I") (List.mem_cons_of_mem _ b_568)
  have w_1 := hts (Cond.fieldLink RX1 31 "CraneLimiter$Chart" "RADII" "[I") (List.mem_cons_of_mem _ b_250)
  have w_2 := hts (Cond.methodLink RX1 53 Lib.Math.max.name) (List.mem_cons_of_mem _ b_569)
  have w_3 := hts (Cond.static Lib.Math.max.name) (List.mem_cons_of_mem _ b_352)
  have w_4 := hts (Cond.initialized "java/lang/Math") (List.mem_cons_of_mem _ b_128)
  have w_5 := hts (Cond.code Lib.Math.max.name Lib.Math.max.code 2 (some .int)) (List.mem_cons_of_mem _ b_353)
  have hS : va_S aF s.heap s.heap [] := va_S.rf
  have hP : va_P (dC, dI) vwCl [(qc, .inr (1, [.ref qcv, .ref qce, .ref qcs, .int cw])), (qcv, .inl (cyI, 96, .inl cv)), (qce, .inl (cyI, 4, .inl ce)), (qcs, .inl (cyI, 4, .inl cs))] s.heap := hP
  have hl := lv_entry ([.ref qc, .int ta, .int le, .int ra] : List Value) (n := 16) (Nat.le_of_ble_eq_true rfl)
  rw [lg_entry_eq]
  generalize (lg_sl ([.ref qc, .int ta, .int le, .int ra] : List Value) ++ List.replicate (16 - (lg_sl ([.ref qc, .int ta, .int le, .int ra] : List Value)).length) Slot.unset).toArray = ls at hl ⊢
  have hl : lv_has ls 16 [(0, .ref qc), (1, .int ta), (2, .int le), (3, .int ra)] := hl
  have hE : x_X1_capacityAt cv ta le ra = x_X1_capacityAt cv ta le ra := rfl
  obtain ⟨aL, hzaL, htaL⟩ := he.len
  obtain ⟨aR, hzaR, htaR⟩ := he.rad
  refine lv_iload_n hx hb dX1_capacityAt_0 rfl (lv_at hl 3 rfl) ?_
  refine lv_sipush (v := 3000) hx hb dX1_capacityAt_1 (by decide) ?_
  refine lv_icmp_le (tgt := 9) hx hb dX1_capacityAt_4 (by decide) (fun c_1 => ?_) (fun c_1 => ?_)
  ·
    have hE := hE.trans (if_pos c_1)
    refine va_gets hx hb hzaL hS hown w_0 (fun _ h9 => h9) dX1_capacityAt_9 ?_
    refine lv_iload_n hx hb dX1_capacityAt_12 rfl (lv_at hl 2 rfl) ?_
    refine vp_callSi (W.runS (As := [.ref aL, .int le]) (rest := []) ⟨hx, hb, hml, hown, hts⟩ (c_X1_belowL l dC dI cyI aL le) (va_cwS 2 hts (gBS b_570 b_571 b_39 b_572) rfl rfl rfl (by decide +kernel) ⟨Nat.le_of_ble_eq_true rfl, Nat.le_of_ble_eq_true rfl⟩) (pre_s (eAnd_ok eX_ok eTT_ok) ⟨he, htaL⟩ hS (hP.sub (ws' := []) [] rfl) (hK.sub (tys' := []) [] rfl)) rfl rfl hl.1 rfl (lv_room (Nat.le_of_ble_eq_true rfl)) dX1_capacityAt_13 ⟨Nat.zero_le _, Nat.zero_le _⟩) (fun r_2 hr_2 => ?_)
    have hE := hE.trans (spLet_eq hr_2)
    have hn_r_2 : r_2 = nI (r_2).toNatClampNeg ∧ (r_2).toNatClampNeg < 3 := by rw [hr_2]; exact belowL_n _
    have hb_r_2 := hn_r_2.2
    refine lv_istore (lv' := [(4, .int r_2), (0, .ref qc), (1, .int ta), (2, .int le), (3, .int ra)]) hx hb dX1_capacityAt_16 hl (by decide) rfl (fun ls hl => ?_)
    refine va_gets hx hb hzaR hS hown w_1 (fun _ h9 => h9) dX1_capacityAt_18 ?_
    refine lv_iload_n hx hb dX1_capacityAt_21 rfl (lv_at hl 4 rfl) ?_
    refine vp_callSi (W.runS (As := [.ref aR, .int ra]) (rest := []) ⟨hx, hb, hml, hown, hts⟩ (c_X1_belowR l dC dI cyI aR ra) (va_cwS 2 hts (gBS b_570 b_571 b_39 b_572) rfl rfl rfl (by decide +kernel) ⟨Nat.le_of_ble_eq_true rfl, Nat.le_of_ble_eq_true rfl⟩) (pre_s (eAnd_ok eX_ok eTT_ok) ⟨he, htaR⟩ hS (hP.sub (ws' := []) [] rfl) (hK.sub (tys' := []) [] rfl)) rfl rfl hl.1 rfl (lv_room (Nat.le_of_ble_eq_true rfl)) dX1_capacityAt_22 ⟨Nat.zero_le _, Nat.zero_le _⟩) (fun r_3 hr_3 => ?_)
    have hE := hE.trans (spLet_eq hr_3)
    have hn_r_3 : r_3 = nI (r_3).toNatClampNeg ∧ (r_3).toNatClampNeg < 5 := by rw [hr_3]; exact belowR_n _
    have hb_r_3 := hn_r_3.2
    refine lv_istore (lv' := [(5, .int r_3), (4, .int r_2), (0, .ref qc), (1, .int ta), (2, .int le), (3, .int ra)]) hx hb dX1_capacityAt_25 hl (by decide) rfl (fun ls hl => ?_)
    refine lv_iload_n hx hb dX1_capacityAt_27 rfl (lv_at hl 5 rfl) ?_
    refine lv_sipush (v := 300) hx hb dX1_capacityAt_28 (by decide) ?_
    refine va_mmax hx hb (hml.trans hl.1.symm) hown w_2 w_3 w_4 w_5 (Nat.le_of_ble_eq_true rfl) (Nat.le_of_ble_eq_true rfl) (Nat.le_of_ble_eq_true rfl) (Nat.le_of_ble_eq_true rfl) dX1_capacityAt_31 ?_
    refine va_gets hx hb hzaR hS hown w_1 (fun _ h9 => h9) dX1_capacityAt_34 ?_
    refine lv_iload hx hb dX1_capacityAt_37 (lv_at hl 0 rfl) ?_
    refine rt_ld hx hb htaR hS (j := (r_3).toNatClampNeg) hn_r_3.1 (by omega) (by omega) dX1_capacityAt_39 ?_
    refine lv_isub hx hb dX1_capacityAt_40 ?_
    refine lv_topi (fun x_4 ex_4 => ?_)
    have hE := hE.trans (spLet_eq ex_4)
    refine lv_istore (lv' := [(6, .int x_4), (5, .int r_3), (4, .int r_2), (0, .ref qc), (1, .int ta), (2, .int le), (3, .int ra)]) hx hb dX1_capacityAt_41 hl (by decide) rfl (fun ls hl => ?_)
    refine va_gets hx hb hzaR hS hown w_1 (fun _ h9 => h9) dX1_capacityAt_43 ?_
    refine lv_iload hx hb dX1_capacityAt_46 (lv_at hl 1 rfl) ?_
    refine lv_iconst (v := 1) hx hb dX1_capacityAt_48 (by decide) ?_
    refine lv_iadd hx hb dX1_capacityAt_49 ?_
    refine rt_ld hx hb htaR hS (j := ((r_3).toNatClampNeg + 1)) (nadd hn_r_3.1 (rfl : (1 : Int32) = nI 1)) (by omega) (by omega) dX1_capacityAt_50 ?_
    refine va_gets hx hb hzaR hS hown w_1 (fun _ h9 => h9) dX1_capacityAt_51 ?_
    refine lv_iload hx hb dX1_capacityAt_54 (lv_at hl 1 rfl) ?_
    refine rt_ld hx hb htaR hS (j := (r_3).toNatClampNeg) hn_r_3.1 (by omega) (by omega) dX1_capacityAt_56 ?_
    refine lv_isub hx hb dX1_capacityAt_57 ?_
    refine lv_topi (fun x_5 ex_5 => ?_)
    have hE := hE.trans (spLet_eq ex_5)
    refine lv_istore (lv' := [(7, .int x_5), (6, .int x_4), (5, .int r_3), (4, .int r_2), (0, .ref qc), (1, .int ta), (2, .int le), (3, .int ra)]) hx hb dX1_capacityAt_58 hl (by decide) rfl (fun ls hl => ?_)
    refine lv_iload_n hx hb dX1_capacityAt_60 rfl (lv_at hl 6 rfl) ?_
    refine va_gets hx hb hzaL hS hown w_0 (fun _ h9 => h9) dX1_capacityAt_61 ?_
    refine lv_iload hx hb dX1_capacityAt_64 (lv_at hl 3 rfl) ?_
    refine rt_ld hx hb htaL hS (j := (r_2).toNatClampNeg) hn_r_2.1 (by omega) (by omega) dX1_capacityAt_66 ?_
    refine lv_isub hx hb dX1_capacityAt_67 ?_
    refine lv_topi (fun x_6 ex_6 => ?_)
    have hE := hE.trans (spLet_eq ex_6)
    refine lv_istore (lv' := [(8, .int x_6), (7, .int x_5), (6, .int x_4), (5, .int r_3), (4, .int r_2), (0, .ref qc), (1, .int ta), (2, .int le), (3, .int ra)]) hx hb dX1_capacityAt_68 hl (by decide) rfl (fun ls hl => ?_)
    refine va_gets hx hb hzaL hS hown w_0 (fun _ h9 => h9) dX1_capacityAt_70 ?_
    refine lv_iload hx hb dX1_capacityAt_73 (lv_at hl 4 rfl) ?_
    refine lv_iconst (v := 1) hx hb dX1_capacityAt_75 (by decide) ?_
    refine lv_iadd hx hb dX1_capacityAt_76 ?_
    refine rt_ld hx hb htaL hS (j := ((r_2).toNatClampNeg + 1)) (nadd hn_r_2.1 (rfl : (1 : Int32) = nI 1)) (by omega) (by omega) dX1_capacityAt_77 ?_
    refine va_gets hx hb hzaL hS hown w_0 (fun _ h9 => h9) dX1_capacityAt_78 ?_
    refine lv_iload hx hb dX1_capacityAt_81 (lv_at hl 4 rfl) ?_
    refine rt_ld hx hb htaL hS (j := (r_2).toNatClampNeg) hn_r_2.1 (by omega) (by omega) dX1_capacityAt_83 ?_
    refine lv_isub hx hb dX1_capacityAt_84 ?_
    refine lv_topi (fun x_7 ex_7 => ?_)
    have hE := hE.trans (spLet_eq ex_7)
    refine lv_istore (lv' := [(9, .int x_7), (8, .int x_6), (7, .int x_5), (6, .int x_4), (5, .int r_3), (4, .int r_2), (0, .ref qc), (1, .int ta), (2, .int le), (3, .int ra)]) hx hb dX1_capacityAt_85 hl (by decide) rfl (fun ls hl => ?_)
    refine lv_aload_n hx hb dX1_capacityAt_87 rfl (lv_at hl 6 rfl) ?_
    refine lv_iload_n hx hb dX1_capacityAt_88 rfl (lv_at hl 7 rfl) ?_
    refine lv_iload hx hb dX1_capacityAt_89 (lv_at hl 5 rfl) ?_
    refine lv_iload hx hb dX1_capacityAt_91 (lv_at hl 4 rfl) ?_
    refine vp_callSi (W.runV (As := [.int ta, .int r_2, .int r_3]) (rest := []) ⟨hx, hb, hml, hown, hts⟩ (c_X1_valueAt l dC dI cyI qc qcv qce qcs cw cv ce cs ta r_2 r_3) (cwV 3 hts (gBV b_258 b_223 b_224 b_39 b_225) rfl rfl rfl (by decide +kernel) ⟨Nat.le_of_ble_eq_true rfl, Nat.le_of_ble_eq_true rfl⟩) (pre_v eX_ok he hS hP hK 0 rfl rfl rfl) rfl rfl hl.1 rfl (lv_room (Nat.le_of_ble_eq_true rfl)) dX1_capacityAt_93 ⟨Nat.zero_le _, Nat.zero_le _⟩) (fun r_8 hr_8 => ?_)
    have hE := hE.trans (spLet_eq hr_8)
    refine lv_i2l hx hb dX1_capacityAt_96 rfl ?_
    refine lv_iload hx hb dX1_capacityAt_97 (lv_at hl 2 rfl) ?_
    refine lv_iload hx hb dX1_capacityAt_99 (lv_at hl 3 rfl) ?_
    refine lv_isub hx hb dX1_capacityAt_101 ?_
    refine lv_i2l hx hb dX1_capacityAt_102 rfl ?_
    refine lv_lmul hx hb dX1_capacityAt_103 ?_
    refine lv_aload_n hx hb dX1_capacityAt_104 rfl (lv_at hl 6 rfl) ?_
    refine lv_iload_n hx hb dX1_capacityAt_105 rfl (lv_at hl 7 rfl) ?_
    refine lv_iload hx hb dX1_capacityAt_106 (lv_at hl 5 rfl) ?_
    refine lv_iload hx hb dX1_capacityAt_108 (lv_at hl 4 rfl) ?_
    refine lv_iconst (v := 1) hx hb dX1_capacityAt_110 (by decide) ?_
    refine lv_iadd hx hb dX1_capacityAt_111 ?_
    refine lv_topi (fun y_9 ey_9 => ?_)
    obtain rfl : y_9 = nI ((r_3).toNatClampNeg + 1) := ey_9.trans (nadd hn_r_3.1 (rfl : (1 : Int32) = nI 1))
    refine vp_callSi (W.runV (As := [.int ta, .int r_2, .int (nI ((r_3).toNatClampNeg + 1))]) (rest := [.long (r_8.toInt64 * ((x_5 - x_4).toInt64))]) ⟨hx, hb, hml, hown, hts⟩ (c_X1_valueAt l dC dI cyI qc qcv qce qcs cw cv ce cs ta r_2 (nI ((r_3).toNatClampNeg + 1))) (cwV 3 hts (gBV b_258 b_223 b_224 b_39 b_225) rfl rfl rfl (by decide +kernel) ⟨Nat.le_of_ble_eq_true rfl, Nat.le_of_ble_eq_true rfl⟩) (pre_v eX_ok he hS hP hK 0 rfl rfl rfl) rfl rfl hl.1 rfl (lv_room (Nat.le_of_ble_eq_true rfl)) dX1_capacityAt_112 ⟨Nat.zero_le _, Nat.zero_le _⟩) (fun r_10 hr_10 => ?_)
    have hE := hE.trans (spLet_eq hr_10)
    refine lv_i2l hx hb dX1_capacityAt_115 rfl ?_
    refine lv_iload hx hb dX1_capacityAt_116 (lv_at hl 3 rfl) ?_
    refine lv_i2l hx hb dX1_capacityAt_118 rfl ?_
    refine lv_lmul hx hb dX1_capacityAt_119 ?_
    refine lv_ladd hx hb dX1_capacityAt_120 ?_
    refine lv_topl (fun x_11 ex_11 => ?_)
    have hE := hE.trans (spLet_eq ex_11)
    refine lv_lstore (lv' := [(10, .long x_11), (9, .int x_7), (8, .int x_6), (7, .int x_5), (6, .int x_4), (5, .int r_3), (4, .int r_2), (0, .ref qc), (1, .int ta), (2, .int le), (3, .int ra)]) hx hb dX1_capacityAt_121 hl (by decide) rfl (fun ls hl => ?_)
    refine lv_aload_n hx hb dX1_capacityAt_123 rfl (lv_at hl 7 rfl) ?_
    refine lv_iload_n hx hb dX1_capacityAt_124 rfl (lv_at hl 8 rfl) ?_
    refine lv_iload hx hb dX1_capacityAt_125 (lv_at hl 6 rfl) ?_
    refine lv_iconst (v := 1) hx hb dX1_capacityAt_127 (by decide) ?_
    refine lv_iadd hx hb dX1_capacityAt_128 ?_
    refine lv_topi (fun y_12 ey_12 => ?_)
    obtain rfl : y_12 = nI ((r_2).toNatClampNeg + 1) := ey_12.trans (nadd hn_r_2.1 (rfl : (1 : Int32) = nI 1))
    refine lv_iload hx hb dX1_capacityAt_129 (lv_at hl 5 rfl) ?_
    refine vp_callSi (W.runV (As := [.int ta, .int (nI ((r_2).toNatClampNeg + 1)), .int r_3]) (rest := []) ⟨hx, hb, hml, hown, hts⟩ (c_X1_valueAt l dC dI cyI qc qcv qce qcs cw cv ce cs ta (nI ((r_2).toNatClampNeg + 1)) r_3) (cwV 3 hts (gBV b_258 b_223 b_224 b_39 b_225) rfl rfl rfl (by decide +kernel) ⟨Nat.le_of_ble_eq_true rfl, Nat.le_of_ble_eq_true rfl⟩) (pre_v eX_ok he hS hP hK 0 rfl rfl rfl) rfl rfl hl.1 rfl (lv_room (Nat.le_of_ble_eq_true rfl)) dX1_capacityAt_131 ⟨Nat.zero_le _, Nat.zero_le _⟩) (fun r_13 hr_13 => ?_)
    have hE := hE.trans (spLet_eq hr_13)
    refine lv_i2l hx hb dX1_capacityAt_134 rfl ?_
    refine lv_iload hx hb dX1_capacityAt_135 (lv_at hl 3 rfl) ?_
    refine lv_iload hx hb dX1_capacityAt_137 (lv_at hl 4 rfl) ?_
    refine lv_isub hx hb dX1_capacityAt_139 ?_
    refine lv_i2l hx hb dX1_capacityAt_140 rfl ?_
    refine lv_lmul hx hb dX1_capacityAt_141 ?_
    refine lv_aload_n hx hb dX1_capacityAt_142 rfl (lv_at hl 7 rfl) ?_
    refine lv_iload_n hx hb dX1_capacityAt_143 rfl (lv_at hl 8 rfl) ?_
    refine lv_iload hx hb dX1_capacityAt_144 (lv_at hl 6 rfl) ?_
    refine lv_iconst (v := 1) hx hb dX1_capacityAt_146 (by decide) ?_
    refine lv_iadd hx hb dX1_capacityAt_147 ?_
    refine lv_topi (fun y_14 ey_14 => ?_)
    obtain rfl : y_14 = nI ((r_2).toNatClampNeg + 1) := ey_14.trans (nadd hn_r_2.1 (rfl : (1 : Int32) = nI 1))
    refine lv_iload hx hb dX1_capacityAt_148 (lv_at hl 5 rfl) ?_
    refine lv_iconst (v := 1) hx hb dX1_capacityAt_150 (by decide) ?_
    refine lv_iadd hx hb dX1_capacityAt_151 ?_
    refine lv_topi (fun y_15 ey_15 => ?_)
    obtain rfl : y_15 = nI ((r_3).toNatClampNeg + 1) := ey_15.trans (nadd hn_r_3.1 (rfl : (1 : Int32) = nI 1))
    refine vp_callSi (W.runV (As := [.int ta, .int (nI ((r_2).toNatClampNeg + 1)), .int (nI ((r_3).toNatClampNeg + 1))]) (rest := [.long (r_13.toInt64 * ((x_5 - x_4).toInt64))]) ⟨hx, hb, hml, hown, hts⟩ (c_X1_valueAt l dC dI cyI qc qcv qce qcs cw cv ce cs ta (nI ((r_2).toNatClampNeg + 1)) (nI ((r_3).toNatClampNeg + 1))) (cwV 3 hts (gBV b_258 b_223 b_224 b_39 b_225) rfl rfl rfl (by decide +kernel) ⟨Nat.le_of_ble_eq_true rfl, Nat.le_of_ble_eq_true rfl⟩) (pre_v eX_ok he hS hP hK 0 rfl rfl rfl) rfl rfl hl.1 rfl (lv_room (Nat.le_of_ble_eq_true rfl)) dX1_capacityAt_152 ⟨Nat.zero_le _, Nat.zero_le _⟩) (fun r_16 hr_16 => ?_)
    have hE := hE.trans (spLet_eq hr_16)
    refine lv_i2l hx hb dX1_capacityAt_155 rfl ?_
    refine lv_iload hx hb dX1_capacityAt_156 (lv_at hl 4 rfl) ?_
    refine lv_i2l hx hb dX1_capacityAt_158 rfl ?_
    refine lv_lmul hx hb dX1_capacityAt_159 ?_
    refine lv_ladd hx hb dX1_capacityAt_160 ?_
    refine lv_topl (fun x_17 ex_17 => ?_)
    have hE := hE.trans (spLet_eq ex_17)
    refine lv_lstore (lv' := [(12, .long x_17), (10, .long x_11), (9, .int x_7), (8, .int x_6), (7, .int x_5), (6, .int x_4), (5, .int r_3), (4, .int r_2), (0, .ref qc), (1, .int ta), (2, .int le), (3, .int ra)]) hx hb dX1_capacityAt_161 hl (by decide) rfl (fun ls hl => ?_)
    refine lv_iload hx hb dX1_capacityAt_163 (lv_at hl 4 rfl) ?_
    refine lv_i2l hx hb dX1_capacityAt_165 rfl ?_
    refine lv_iload hx hb dX1_capacityAt_166 (lv_at hl 2 rfl) ?_
    refine lv_i2l hx hb dX1_capacityAt_168 rfl ?_
    refine lv_lmul hx hb dX1_capacityAt_169 ?_
    refine lv_topl (fun x_18 ex_18 => ?_)
    have hE := hE.trans (spLet_eq ex_18)
    refine lv_lstore (lv' := [(14, .long x_18), (12, .long x_17), (10, .long x_11), (9, .int x_7), (8, .int x_6), (7, .int x_5), (6, .int x_4), (5, .int r_3), (4, .int r_2), (0, .ref qc), (1, .int ta), (2, .int le), (3, .int ra)]) hx hb dX1_capacityAt_170 hl (by decide) rfl (fun ls hl => ?_)
    refine lv_lload hx hb dX1_capacityAt_172 (lv_at hl 0 rfl) ?_
    refine lv_lconst (v := 0) hx hb dX1_capacityAt_174 (by decide) ?_
    refine W.lcmp hx hb dX1_capacityAt_175 ?_
    refine lv_if_gt (tgt := 183) hx hb dX1_capacityAt_176 (by decide) (fun c_19 => ?_) (fun c_19 => ?_)
    ·
      have hE := hE.trans (if_pos c_19)
      refine lv_lload hx hb dX1_capacityAt_183 (lv_at hl 2 rfl) ?_
      refine lv_iload hx hb dX1_capacityAt_185 (lv_at hl 3 rfl) ?_
      refine lv_iload hx hb dX1_capacityAt_187 (lv_at hl 4 rfl) ?_
      refine lv_isub hx hb dX1_capacityAt_189 ?_
      refine lv_i2l hx hb dX1_capacityAt_190 rfl ?_
      refine lv_lmul hx hb dX1_capacityAt_191 ?_
      refine lv_lload hx hb dX1_capacityAt_192 (lv_at hl 1 rfl) ?_
      refine lv_iload hx hb dX1_capacityAt_194 (lv_at hl 4 rfl) ?_
      refine lv_i2l hx hb dX1_capacityAt_196 rfl ?_
      refine lv_lmul hx hb dX1_capacityAt_197 ?_
      refine lv_ladd hx hb dX1_capacityAt_198 ?_
      refine lv_lload hx hb dX1_capacityAt_199 (lv_at hl 0 rfl) ?_
      refine lv_ldiv hx hb dX1_capacityAt_201 (xcmp_ne (by assumption)) ?_
      refine lv_l2i hx hb dX1_capacityAt_202 rfl ?_
      exact W.iret (v := (((x_11 * ((x_7 - x_6).toInt64)) + (x_17 * x_6.toInt64)) / x_18).toInt32) hx hb hr (fun t ht hW => ⟨_, rfl, hE.symm, ht⟩) (fun q h => by cases h) dX1_capacityAt_203
    ·
      have hE := hE.trans (if_neg c_19)
      refine lv_iconst (v := 0) hx hb dX1_capacityAt_179 (by decide) ?_
      refine lv_goto (tgt := 203) hx hb dX1_capacityAt_180 (by decide) ?_
      exact W.iret (v := (0 : Int32)) hx hb hr (fun t ht hW => ⟨_, rfl, hE.symm, ht⟩) (fun q h => by cases h) dX1_capacityAt_203
  ·
    have hE := hE.trans (if_neg c_1)
    refine lv_iconst (v := 0) hx hb dX1_capacityAt_7 (by decide) ?_
    exact W.iret (v := (0 : Int32)) hx hb hr (fun t ht hW => ⟨_, rfl, hE.symm, ht⟩) (fun q h => by cases h) dX1_capacityAt_8
def x_X1_ratedAt (cw : Int32) (cv : Nat → Int32) (ce : Nat → Int32) (cs : Nat → Int32) (le : Int32) (ra : Int32) (sl : Int32) : Int32 :=
  spLet (x_X1_tableAt cw ce sl) (fun r_1 => spLet (x_X1_capacityAt cv r_1 le ra) (fun r_2 => spLet (x_X1_windFactor cs) (fun r_3 => ((r_2 * r_3) / (1000 : Int32)))))
set_option maxHeartbeats 1000000 in
set_option maxRecDepth 100000 in
theorem c_X1_ratedAt (l : Launch) (dC : Nat → ClassId) (dI : Nat → Nat → Nat) (cyI : ClassId) (qc : Nat) (qcv : Nat) (qce : Nat) (qcs : Nat) (cw : Int32) (cv : Nat → Int32) (ce : Nat → Int32) (cs : Nat → Int32) (le : Int32) (ra : Int32) (sl : Int32) : Met l yX1_ratedAt wqX1_ratedAt ({ frames := 2, cells := 0, slots := 0, locals := 59 } : Room) (va_Pc [.ref qc, .int le, .int ra, .int sl] (pB (dC, dI) [(qc, .inr (1, [.ref qcv, .ref qce, .ref qcs, .int cw])), (qcv, .inl (cyI, 96, .inl cv)), (qce, .inl (cyI, 4, .inl ce)), (qcs, .inl (cyI, 4, .inl cs))] [(cyI, .int)] eX)) (vp_Si (fun r => r = (x_X1_ratedAt cw cv ce cs le ra sl))) 0 0 aF := by
  refine Met.ofW (cc := cX1_ratedAt) (maxL := 4) (ret := (some .int)) (by decide) rfl ?_
  intro p e s m args below meth c s₁ B hml hv
  obtain ⟨rfl, hP, hK, he⟩ := hv
  have hx := B.exec
  have hb := B.bytes
  have hr := B.returns
  have hts := atoms_spec (ws := wqX1_ratedAt) B.pre
  have hown : s.vm.findClass RX1 = some m.cls := findClass_of_methodNamed B.named
  have hlocks := B.notSynchronized
  have hS : va_S aF s.heap s.heap [] := va_S.rf
  have hP : va_P (dC, dI) vwCl [(qc, .inr (1, [.ref qcv, .ref qce, .ref qcs, .int cw])), (qcv, .inl (cyI, 96, .inl cv)), (qce, .inl (cyI, 4, .inl ce)), (qcs, .inl (cyI, 4, .inl cs))] s.heap := hP
  have hl := lv_entry ([.ref qc, .int le, .int ra, .int sl] : List Value) (n := 4) (Nat.le_of_ble_eq_true rfl)
  rw [lg_entry_eq]
  generalize (lg_sl ([.ref qc, .int le, .int ra, .int sl] : List Value) ++ List.replicate (4 - (lg_sl ([.ref qc, .int le, .int ra, .int sl] : List Value)).length) Slot.unset).toArray = ls at hl ⊢
  have hl : lv_has ls 4 [(0, .ref qc), (1, .int le), (2, .int ra), (3, .int sl)] := hl
  have hE : x_X1_ratedAt cw cv ce cs le ra sl = x_X1_ratedAt cw cv ce cs le ra sl := rfl
  refine lv_aload_n hx hb dX1_ratedAt_0 rfl (lv_at hl 0 rfl) ?_
  refine lv_aload_n hx hb dX1_ratedAt_1 rfl (lv_at hl 0 rfl) ?_
  refine lv_iload_n hx hb dX1_ratedAt_2 rfl (lv_at hl 3 rfl) ?_
  refine vp_callSi (W.runV (As := [.int sl]) (rest := [.ref qc]) ⟨hx, hb, hml, hown, hts⟩ (c_X1_tableAt l dC dI cyI qc qcv qce qcs cw cv ce cs sl) (cwV 1 hts (gBV b_560 b_561 b_562 b_39 b_563) rfl rfl rfl (by decide +kernel) ⟨Nat.le_of_ble_eq_true rfl, Nat.le_of_ble_eq_true rfl⟩) (pre_v eX_ok he hS hP hK 0 rfl rfl rfl) rfl rfl hl.1 rfl (lv_room (Nat.le_of_ble_eq_true rfl)) dX1_ratedAt_3 ⟨Nat.zero_le _, Nat.zero_le _⟩) (fun r_1 hr_1 => ?_)
  have hE := hE.trans (spLet_eq hr_1)
  refine lv_iload_n hx hb dX1_ratedAt_6 rfl (lv_at hl 1 rfl) ?_
  refine lv_iload_n hx hb dX1_ratedAt_7 rfl (lv_at hl 2 rfl) ?_
  refine vp_callSi (W.runV (As := [.int r_1, .int le, .int ra]) (rest := []) ⟨hx, hb, hml, hown, hts⟩ (c_X1_capacityAt l dC dI cyI qc qcv qce qcs cw cv ce cs r_1 le ra) (cwV 3 hts (gBV b_564 b_565 b_566 b_39 b_567) rfl rfl rfl (by decide +kernel) ⟨Nat.le_of_ble_eq_true rfl, Nat.le_of_ble_eq_true rfl⟩) (pre_v eX_ok he hS hP hK 0 rfl rfl rfl) rfl rfl hl.1 rfl (lv_room (Nat.le_of_ble_eq_true rfl)) dX1_ratedAt_8 ⟨Nat.zero_le _, Nat.zero_le _⟩) (fun r_2 hr_2 => ?_)
  have hE := hE.trans (spLet_eq hr_2)
  refine lv_aload_n hx hb dX1_ratedAt_11 rfl (lv_at hl 0 rfl) ?_
  refine vp_callSi (W.runV (As := []) (rest := [.int r_2]) ⟨hx, hb, hml, hown, hts⟩ (c_X1_windFactor l dC dI cyI qc qcv qce qcs cw cv ce cs) (cwV 0 hts (gBV b_573 b_574 b_575 b_39 b_576) rfl rfl rfl (by decide +kernel) ⟨Nat.le_of_ble_eq_true rfl, Nat.le_of_ble_eq_true rfl⟩) (pre_v eX_ok he hS hP hK 0 rfl rfl rfl) rfl rfl hl.1 rfl (lv_room (Nat.le_of_ble_eq_true rfl)) dX1_ratedAt_12 ⟨Nat.zero_le _, Nat.zero_le _⟩) (fun r_3 hr_3 => ?_)
  have hE := hE.trans (spLet_eq hr_3)
  refine lv_imul hx hb dX1_ratedAt_15 ?_
  refine lv_sipush (v := 1000) hx hb dX1_ratedAt_16 (by decide) ?_
  refine lv_idiv hx hb dX1_ratedAt_19 (by decide) ?_
  exact W.iret (v := ((r_2 * r_3) / (1000 : Int32))) hx hb hr (fun t ht hW => ⟨_, rfl, hE.symm, ht⟩) (fun q h => by cases h) dX1_ratedAt_20
def x_X3_add (go : Int32) (gc : Int32) (gt : Nat → Int32) (gk : Nat → Int32) (gv : Nat → Int32) (ti : Int32) (ki : Int32) (va : Int32) : Int32 × Int32 × (Nat → Int32) × (Nat → Int32) × (Nat → Int32) :=
  spLet (x_X3_slotOf go gc) (fun r_1 => spLet (upd gt ((r_1).toNatClampNeg) ti) (fun f_2 => spLet (upd gk ((r_1).toNatClampNeg) ki) (fun f_3 => spLet (upd gv ((r_1).toNatClampNeg) va) (fun f_4 => if (30 : Int32) ≤ gc then (spLet (x_X3_slotOf go (1 : Int32)) (fun r_6 => (r_6, gc, f_2, f_3, f_4))) else (spLet ((gc + (1 : Int32))) (fun x_7 => (go, x_7, f_2, f_3, f_4)))))))
set_option maxHeartbeats 1000000 in
set_option maxRecDepth 100000 in
theorem c_X3_add (l : Launch) (dC : Nat → ClassId) (dI : Nat → Nat → Nat) (cyI : ClassId) (sz : Nat) (qg : Nat) (qgt : Nat) (qgk : Nat) (qgv : Nat) (go : Int32) (gc : Int32) (gt : Nat → Int32) (gk : Nat → Int32) (gv : Nat → Int32) (ti : Int32) (ki : Int32) (va : Int32) : Met l yX3_add wqX3_add ({ frames := 2, cells := 0, slots := 0, locals := 43 } : Room) (va_Pc [.ref qg, .int ti, .int ki, .int va] (pC (dC, dI) [(qg, .inr (3, [.ref qgt, .ref qgk, .ref qgv, .int go, .int gc])), (qgt, .inl (cyI, 30, .inl gt)), (qgk, .inl (cyI, 30, .inl gk)), (qgv, .inl (cyI, 30, .inl gv))] [(cyI, .int)] eX sz)) (va_Qv (fun u : Int32 × Int32 × (Nat → Int32) × (Nat → Int32) × (Nat → Int32) => u = (x_X3_add go gc gt gk gv ti ki va)) (fun (u : Int32 × Int32 × (Nat → Int32) × (Nat → Int32) × (Nat → Int32)) t => va_P (dC, dI) vwCl [(qg, .inr (3, [.ref qgt, .ref qgk, .ref qgv, .int (u.1), .int (u.2.1)])), (qgt, .inl (cyI, 30, .inl (u.2.2.1))), (qgk, .inl (cyI, 30, .inl (u.2.2.2.1))), (qgv, .inl (cyI, 30, .inl (u.2.2.2.2)))] t.heap ∧ va_D (va_A [(qg, .inr (3, [.ref qgt, .ref qgk, .ref qgv, .int go, .int gc])), (qgt, .inl (cyI, 30, .inl gt)), (qgk, .inl (cyI, 30, .inl gk)), (qgv, .inl (cyI, 30, .inl gv))] sz) [(qg, .inr (3, [.ref qgt, .ref qgk, .ref qgv, .int (u.1), .int (u.2.1)])), (qgt, .inl (cyI, 30, .inl (u.2.2.1))), (qgk, .inl (cyI, 30, .inl (u.2.2.2.1))), (qgv, .inl (cyI, 30, .inl (u.2.2.2.2)))]) (va_A [(qg, .inr (3, [.ref qgt, .ref qgk, .ref qgv, .int go, .int gc])), (qgt, .inl (cyI, 30, .inl gt)), (qgk, .inl (cyI, 30, .inl gk)), (qgv, .inl (cyI, 30, .inl gv))] sz)) 0 0 (va_A [(qg, .inr (3, [.ref qgt, .ref qgk, .ref qgv, .int go, .int gc])), (qgt, .inl (cyI, 30, .inl gt)), (qgk, .inl (cyI, 30, .inl gk)), (qgv, .inl (cyI, 30, .inl gv))] sz) := by
  refine Met.ofW (cc := cX3_add) (maxL := 5) (ret := none) (by decide) rfl ?_
  intro p e s m args below meth c s₁ B hml hv
  obtain ⟨rfl, hsz, hP, hK, hD0, he⟩ := hv
  have hx := B.exec
  have hb := B.bytes
  have hr := B.returns
  have hts := atoms_spec (ws := wqX3_add) B.pre
  have hown : s.vm.findClass RX3 = some m.cls := findClass_of_methodNamed B.named
  have hlocks := B.notSynchronized
  have w_0 := hts (Cond.fieldLink RX3 29 "CraneLimiter$Log" "count" "I") (List.mem_cons_of_mem _ b_167)
  have w_1 := hts (Cond.fieldLink RX3 9 "CraneLimiter$Log" "times" "[I") (List.mem_cons_of_mem _ b_72)
  have w_2 := hts (Cond.fieldLink RX3 13 "CraneLimiter$Log" "kinds" "[I") (List.mem_cons_of_mem _ b_73)
  have w_3 := hts (Cond.fieldLink RX3 16 "CraneLimiter$Log" "values" "[I") (List.mem_cons_of_mem _ b_74)
  have w_4 := hts (Cond.fieldLink RX3 25 "CraneLimiter$Log" "oldest" "I") (List.mem_cons_of_mem _ b_166)
  have i_X3 : ∀ w ∈ u_ws RX3 TX3 5, w ∈ wqX3_add := fun w h => List.mem_cons_of_mem _ (bX3 w h)
  subst hsz
  have hD := hD0.self (sz := s.heap.size)
  generalize hAe : va_A [(qg, .inr (3, [.ref qgt, .ref qgk, .ref qgv, .int go, .int gc])), (qgt, .inl (cyI, 30, .inl gt)), (qgk, .inl (cyI, 30, .inl gk)), (qgv, .inl (cyI, 30, .inl gv))] s.heap.size = A at hD he ⊢
  have hA : ∀ q : Nat, s.heap.size ≤ q → A q := fun q h => by rw [← hAe]; exact Or.inr h
  have hS : va_S A s.heap s.heap [] := va_S.rf
  have hP : va_P (dC, dI) vwCl [(qg, .inr (3, [.ref qgt, .ref qgk, .ref qgv, .int go, .int gc])), (qgt, .inl (cyI, 30, .inl gt)), (qgk, .inl (cyI, 30, .inl gk)), (qgv, .inl (cyI, 30, .inl gv))] s.heap := hP
  have hl := lv_entry ([.ref qg, .int ti, .int ki, .int va] : List Value) (n := 5) (Nat.le_of_ble_eq_true rfl)
  rw [lg_entry_eq]
  generalize (lg_sl ([.ref qg, .int ti, .int ki, .int va] : List Value) ++ List.replicate (5 - (lg_sl ([.ref qg, .int ti, .int ki, .int va] : List Value)).length) Slot.unset).toArray = ls at hl ⊢
  have hl : lv_has ls 5 [(0, .ref qg), (1, .int ti), (2, .int ki), (3, .int va)] := hl
  have hE : x_X3_add go gc gt gk gv ti ki va = x_X3_add go gc gt gk gv ti ki va := rfl
  refine lv_aload_n hx hb dX3_add_0 rfl (lv_at hl 0 rfl) ?_
  refine lv_aload_n hx hb dX3_add_1 rfl (lv_at hl 0 rfl) ?_
  refine va_get (D := (dC, dI)) (ci := 3) (v := .int gc) (C := RX3) (T := TX3) (N := 5) hx hb hts i_X3 hown hK hP 0 rfl rfl 4 (by decide) w_0 (fun _ h9 => h9) rfl dX3_add_2 ?_
  refine vp_callSi (W.runV (As := [.int gc]) (rest := []) ⟨hx, hb, hml, hown, hts⟩ (c_X3_slotOf l dC dI cyI qg qgt qgk qgv go gc gt gk gv gc) (cwV 1 hts (gBV b_590 b_591 b_592 b_47 b_593) rfl rfl rfl (by decide +kernel) ⟨Nat.le_of_ble_eq_true rfl, Nat.le_of_ble_eq_true rfl⟩) (pre_v eX_ok he hS hP hK 0 rfl rfl rfl) rfl rfl hl.1 rfl (lv_room (Nat.le_of_ble_eq_true rfl)) dX3_add_5 ⟨Nat.zero_le _, Nat.zero_le _⟩) (fun r_1 hr_1 => ?_)
  have hE := hE.trans (spLet_eq hr_1)
  have hn_r_1 : r_1 = nI (r_1).toNatClampNeg ∧ (r_1).toNatClampNeg < 30 := by rw [hr_1]; exact slotOf_m _ _
  have hb_r_1 := hn_r_1.2
  refine lv_istore (lv' := [(4, .int r_1), (0, .ref qg), (1, .int ti), (2, .int ki), (3, .int va)]) hx hb dX3_add_8 hl (by decide) rfl (fun ls hl => ?_)
  refine lv_aload_n hx hb dX3_add_10 rfl (lv_at hl 1 rfl) ?_
  refine va_get (D := (dC, dI)) (ci := 3) (v := .ref qgt) (C := RX3) (T := TX3) (N := 5) hx hb hts i_X3 hown hK hP 0 rfl rfl 0 (by decide) w_1 (fun _ h9 => h9) rfl dX3_add_11 ?_
  refine lv_iload hx hb dX3_add_14 (lv_at hl 0 rfl) ?_
  refine lv_iload_n hx hb dX3_add_16 rfl (lv_at hl 2 rfl) ?_
  refine ra_st hx hb hK hP hD hS 1 0 rfl rfl (j := (r_1).toNatClampNeg) hn_r_1.1 (by omega) (by omega) dX3_add_17 (fun H locs hP hD hS => ?_)
  have hP : va_P (dC, dI) vwCl [(qg, .inr (3, [.ref qgt, .ref qgk, .ref qgv, .int go, .int gc])), (qgt, .inl (cyI, 30, .inl (upd gt ((r_1).toNatClampNeg) ti))), (qgk, .inl (cyI, 30, .inl gk)), (qgv, .inl (cyI, 30, .inl gv))] H := hP
  have hD : va_D A [(qg, .inr (3, [.ref qgt, .ref qgk, .ref qgv, .int go, .int gc])), (qgt, .inl (cyI, 30, .inl (upd gt ((r_1).toNatClampNeg) ti))), (qgk, .inl (cyI, 30, .inl gk)), (qgv, .inl (cyI, 30, .inl gv))] := hD
  obtain ⟨f_2, ef_2⟩ : ∃ y : Nat → Int32, y = upd gt ((r_1).toNatClampNeg) ti := ⟨_, rfl⟩
  rw [← ef_2] at hP hD
  have hE := hE.trans (spLet_eq ef_2)
  refine lv_aload_n hx hb dX3_add_18 rfl (lv_at hl 1 rfl) ?_
  refine va_get (D := (dC, dI)) (ci := 3) (v := .ref qgk) (C := RX3) (T := TX3) (N := 5) hx hb hts i_X3 hown hK hP 0 rfl rfl 1 (by decide) w_2 (fun _ h9 => h9) rfl dX3_add_19 ?_
  refine lv_iload hx hb dX3_add_22 (lv_at hl 0 rfl) ?_
  refine lv_iload_n hx hb dX3_add_24 rfl (lv_at hl 3 rfl) ?_
  refine ra_st hx hb hK hP hD hS 2 0 rfl rfl (j := (r_1).toNatClampNeg) hn_r_1.1 (by omega) (by omega) dX3_add_25 (fun H locs hP hD hS => ?_)
  have hP : va_P (dC, dI) vwCl [(qg, .inr (3, [.ref qgt, .ref qgk, .ref qgv, .int go, .int gc])), (qgt, .inl (cyI, 30, .inl f_2)), (qgk, .inl (cyI, 30, .inl (upd gk ((r_1).toNatClampNeg) ki))), (qgv, .inl (cyI, 30, .inl gv))] H := hP
  have hD : va_D A [(qg, .inr (3, [.ref qgt, .ref qgk, .ref qgv, .int go, .int gc])), (qgt, .inl (cyI, 30, .inl f_2)), (qgk, .inl (cyI, 30, .inl (upd gk ((r_1).toNatClampNeg) ki))), (qgv, .inl (cyI, 30, .inl gv))] := hD
  obtain ⟨f_3, ef_3⟩ : ∃ y : Nat → Int32, y = upd gk ((r_1).toNatClampNeg) ki := ⟨_, rfl⟩
  rw [← ef_3] at hP hD
  have hE := hE.trans (spLet_eq ef_3)
  refine lv_aload_n hx hb dX3_add_26 rfl (lv_at hl 1 rfl) ?_
  refine va_get (D := (dC, dI)) (ci := 3) (v := .ref qgv) (C := RX3) (T := TX3) (N := 5) hx hb hts i_X3 hown hK hP 0 rfl rfl 2 (by decide) w_3 (fun _ h9 => h9) rfl dX3_add_27 ?_
  refine lv_iload hx hb dX3_add_30 (lv_at hl 0 rfl) ?_
  refine lv_iload_n hx hb dX3_add_32 rfl (lv_at hl 4 rfl) ?_
  refine ra_st hx hb hK hP hD hS 3 0 rfl rfl (j := (r_1).toNatClampNeg) hn_r_1.1 (by omega) (by omega) dX3_add_33 (fun H locs hP hD hS => ?_)
  have hP : va_P (dC, dI) vwCl [(qg, .inr (3, [.ref qgt, .ref qgk, .ref qgv, .int go, .int gc])), (qgt, .inl (cyI, 30, .inl f_2)), (qgk, .inl (cyI, 30, .inl f_3)), (qgv, .inl (cyI, 30, .inl (upd gv ((r_1).toNatClampNeg) va)))] H := hP
  have hD : va_D A [(qg, .inr (3, [.ref qgt, .ref qgk, .ref qgv, .int go, .int gc])), (qgt, .inl (cyI, 30, .inl f_2)), (qgk, .inl (cyI, 30, .inl f_3)), (qgv, .inl (cyI, 30, .inl (upd gv ((r_1).toNatClampNeg) va)))] := hD
  obtain ⟨f_4, ef_4⟩ : ∃ y : Nat → Int32, y = upd gv ((r_1).toNatClampNeg) va := ⟨_, rfl⟩
  rw [← ef_4] at hP hD
  have hE := hE.trans (spLet_eq ef_4)
  refine lv_aload_n hx hb dX3_add_34 rfl (lv_at hl 1 rfl) ?_
  refine va_get (D := (dC, dI)) (ci := 3) (v := .int gc) (C := RX3) (T := TX3) (N := 5) hx hb hts i_X3 hown hK hP 0 rfl rfl 4 (by decide) w_0 (fun _ h9 => h9) rfl dX3_add_35 ?_
  refine lv_bipush (v := 30) hx hb dX3_add_38 (by decide) ?_
  refine lv_icmp_ge (tgt := 56) hx hb dX3_add_40 (by decide) (fun c_5 => ?_) (fun c_5 => ?_)
  ·
    have hE := hE.trans (if_pos c_5)
    refine lv_aload_n hx hb dX3_add_56 rfl (lv_at hl 1 rfl) ?_
    refine lv_aload_n hx hb dX3_add_57 rfl (lv_at hl 1 rfl) ?_
    refine lv_iconst (v := 1) hx hb dX3_add_58 (by decide) ?_
    refine vp_callSi (W.runV (As := [.int (1 : Int32)]) (rest := [.ref qg]) ⟨hx, hb, hml, hown, hts⟩ (c_X3_slotOf l dC dI cyI qg qgt qgk qgv go gc f_2 f_3 f_4 (1 : Int32)) (cwV 1 hts (gBV b_590 b_591 b_592 b_47 b_593) rfl rfl rfl (by decide +kernel) ⟨Nat.le_of_ble_eq_true rfl, Nat.le_of_ble_eq_true rfl⟩) (pre_v eX_ok he hS hP hK 0 rfl rfl rfl) rfl rfl hl.1 rfl (lv_room (Nat.le_of_ble_eq_true rfl)) dX3_add_59 ⟨Nat.zero_le _, Nat.zero_le _⟩) (fun r_6 hr_6 => ?_)
    have hE := hE.trans (spLet_eq hr_6)
    refine va_put (D := (dC, dI)) (ci := 3) (v := .int r_6) (ty := .int) (C := RX3) (T := TX3) (N := 5) hx hb hts i_X3 tyX3 tyX3_ok nmX3 hown hK hP hD hS 0 rfl rfl 3 (by decide) w_4 (fun _ h9 => h9) rfl (by decide +kernel) (rfl) (rfl) (Nat.le_of_ble_eq_true rfl) dX3_add_62 (fun H locs hP hD hS => ?_)
    have hP : va_P (dC, dI) vwCl [(qg, .inr (3, [.ref qgt, .ref qgk, .ref qgv, .int r_6, .int gc])), (qgt, .inl (cyI, 30, .inl f_2)), (qgk, .inl (cyI, 30, .inl f_3)), (qgv, .inl (cyI, 30, .inl f_4))] H := hP
    have hD : va_D A [(qg, .inr (3, [.ref qgt, .ref qgk, .ref qgv, .int r_6, .int gc])), (qgt, .inl (cyI, 30, .inl f_2)), (qgk, .inl (cyI, 30, .inl f_3)), (qgv, .inl (cyI, 30, .inl f_4))] := hD
    exact W.vret hx hb hr (fun t h9 hW => ⟨⟨((r_6, gc, f_2, f_3, f_4) : Int32 × Int32 × (Nat → Int32) × (Nat → Int32) × (Nat → Int32)), rfl, hE.symm, by rw [h9]; exact hP, hD⟩, hS.F h9⟩) hS.2.2 dX3_add_65
  ·
    have hE := hE.trans (if_neg c_5)
    refine lv_aload_n hx hb dX3_add_43 rfl (lv_at hl 1 rfl) ?_
    refine lv_dup hx hb dX3_add_44 rfl ?_
    refine va_get (D := (dC, dI)) (ci := 3) (v := .int gc) (C := RX3) (T := TX3) (N := 5) hx hb hts i_X3 hown hK hP 0 rfl rfl 4 (by decide) w_0 (fun _ h9 => h9) rfl dX3_add_45 ?_
    refine lv_iconst (v := 1) hx hb dX3_add_48 (by decide) ?_
    refine lv_iadd hx hb dX3_add_49 ?_
    refine lv_topi (fun x_7 ex_7 => ?_)
    have hE := hE.trans (spLet_eq ex_7)
    refine va_put (D := (dC, dI)) (ci := 3) (v := .int x_7) (ty := .int) (C := RX3) (T := TX3) (N := 5) hx hb hts i_X3 tyX3 tyX3_ok nmX3 hown hK hP hD hS 0 rfl rfl 4 (by decide) w_0 (fun _ h9 => h9) rfl (by decide +kernel) (rfl) (rfl) (Nat.le_of_ble_eq_true rfl) dX3_add_50 (fun H locs hP hD hS => ?_)
    have hP : va_P (dC, dI) vwCl [(qg, .inr (3, [.ref qgt, .ref qgk, .ref qgv, .int go, .int x_7])), (qgt, .inl (cyI, 30, .inl f_2)), (qgk, .inl (cyI, 30, .inl f_3)), (qgv, .inl (cyI, 30, .inl f_4))] H := hP
    have hD : va_D A [(qg, .inr (3, [.ref qgt, .ref qgk, .ref qgv, .int go, .int x_7])), (qgt, .inl (cyI, 30, .inl f_2)), (qgk, .inl (cyI, 30, .inl f_3)), (qgv, .inl (cyI, 30, .inl f_4))] := hD
    refine lv_goto (tgt := 65) hx hb dX3_add_53 (by decide) ?_
    exact W.vret hx hb hr (fun t h9 hW => ⟨⟨((go, x_7, f_2, f_3, f_4) : Int32 × Int32 × (Nat → Int32) × (Nat → Int32) × (Nat → Int32)), rfl, hE.symm, by rw [h9]; exact hP, hD⟩, hS.F h9⟩) hS.2.2 dX3_add_65
def x_X3_part (go : Int32) (gt : Nat → Int32) (gk : Nat → Int32) (gv : Nat → Int32) (ix : Int32) (wh : Int32) : Int32 :=
  spLet (x_X3_slotOf go ix) (fun r_1 => if wh = 0 then ((gt ((r_1).toNatClampNeg))) else (if wh = (1 : Int32) then ((gk ((r_1).toNatClampNeg))) else ((gv ((r_1).toNatClampNeg)))))
set_option maxHeartbeats 1000000 in
set_option maxRecDepth 100000 in
theorem c_X3_part (l : Launch) (dC : Nat → ClassId) (dI : Nat → Nat → Nat) (cyI : ClassId) (qg : Nat) (qgt : Nat) (qgk : Nat) (qgv : Nat) (go : Int32) (gc : Int32) (gt : Nat → Int32) (gk : Nat → Int32) (gv : Nat → Int32) (ix : Int32) (wh : Int32) : Met l yX3_part wqX3_part ({ frames := 2, cells := 0, slots := 0, locals := 43 } : Room) (va_Pc [.ref qg, .int ix, .int wh] (pB (dC, dI) [(qg, .inr (3, [.ref qgt, .ref qgk, .ref qgv, .int go, .int gc])), (qgt, .inl (cyI, 30, .inl gt)), (qgk, .inl (cyI, 30, .inl gk)), (qgv, .inl (cyI, 30, .inl gv))] [(cyI, .int)] eX)) (vp_Si (fun r => r = (x_X3_part go gt gk gv ix wh))) 0 0 aF := by
  refine Met.ofW (cc := cX3_part) (maxL := 4) (ret := (some .int)) (by decide) rfl ?_
  intro p e s m args below meth c s₁ B hml hv
  obtain ⟨rfl, hP, hK, he⟩ := hv
  have hx := B.exec
  have hb := B.bytes
  have hr := B.returns
  have hts := atoms_spec (ws := wqX3_part) B.pre
  have hown : s.vm.findClass RX3 = some m.cls := findClass_of_methodNamed B.named
  have hlocks := B.notSynchronized
  have w_0 := hts (Cond.fieldLink RX3 16 "CraneLimiter$Log" "values" "[I") (List.mem_cons_of_mem _ b_74)
  have w_1 := hts (Cond.fieldLink RX3 13 "CraneLimiter$Log" "kinds" "[I") (List.mem_cons_of_mem _ b_73)
  have w_2 := hts (Cond.fieldLink RX3 9 "CraneLimiter$Log" "times" "[I") (List.mem_cons_of_mem _ b_72)
  have i_X3 : ∀ w ∈ u_ws RX3 TX3 5, w ∈ wqX3_part := fun w h => List.mem_cons_of_mem _ (bX3 w h)
  have hS : va_S aF s.heap s.heap [] := va_S.rf
  have hP : va_P (dC, dI) vwCl [(qg, .inr (3, [.ref qgt, .ref qgk, .ref qgv, .int go, .int gc])), (qgt, .inl (cyI, 30, .inl gt)), (qgk, .inl (cyI, 30, .inl gk)), (qgv, .inl (cyI, 30, .inl gv))] s.heap := hP
  have hl := lv_entry ([.ref qg, .int ix, .int wh] : List Value) (n := 4) (Nat.le_of_ble_eq_true rfl)
  rw [lg_entry_eq]
  generalize (lg_sl ([.ref qg, .int ix, .int wh] : List Value) ++ List.replicate (4 - (lg_sl ([.ref qg, .int ix, .int wh] : List Value)).length) Slot.unset).toArray = ls at hl ⊢
  have hl : lv_has ls 4 [(0, .ref qg), (1, .int ix), (2, .int wh)] := hl
  have hE : x_X3_part go gt gk gv ix wh = x_X3_part go gt gk gv ix wh := rfl
  refine lv_aload_n hx hb dX3_part_0 rfl (lv_at hl 0 rfl) ?_
  refine lv_iload_n hx hb dX3_part_1 rfl (lv_at hl 1 rfl) ?_
  refine vp_callSi (W.runV (As := [.int ix]) (rest := []) ⟨hx, hb, hml, hown, hts⟩ (c_X3_slotOf l dC dI cyI qg qgt qgk qgv go gc gt gk gv ix) (cwV 1 hts (gBV b_590 b_591 b_592 b_47 b_593) rfl rfl rfl (by decide +kernel) ⟨Nat.le_of_ble_eq_true rfl, Nat.le_of_ble_eq_true rfl⟩) (pre_v eX_ok he hS hP hK 0 rfl rfl rfl) rfl rfl hl.1 rfl (lv_room (Nat.le_of_ble_eq_true rfl)) dX3_part_2 ⟨Nat.zero_le _, Nat.zero_le _⟩) (fun r_1 hr_1 => ?_)
  have hE := hE.trans (spLet_eq hr_1)
  have hn_r_1 : r_1 = nI (r_1).toNatClampNeg ∧ (r_1).toNatClampNeg < 30 := by rw [hr_1]; exact slotOf_m _ _
  have hb_r_1 := hn_r_1.2
  refine lv_istore_n (lv' := [(3, .int r_1), (0, .ref qg), (1, .int ix), (2, .int wh)]) hx hb dX3_part_5 rfl hl (by decide) rfl (fun ls hl => ?_)
  refine lv_iload_n hx hb dX3_part_6 rfl (lv_at hl 3 rfl) ?_
  refine lv_if_ne (tgt := 19) hx hb dX3_part_7 (by decide) (fun c_2 => ?_) (fun c_2 => ?_)
  ·
    have hE := hE.trans (if_neg c_2)
    refine lv_iload_n hx hb dX3_part_19 rfl (lv_at hl 3 rfl) ?_
    refine lv_iconst (v := 1) hx hb dX3_part_20 (by decide) ?_
    refine lv_icmp_ne (tgt := 33) hx hb dX3_part_21 (by decide) (fun c_3 => ?_) (fun c_3 => ?_)
    ·
      have hE := hE.trans (if_neg c_3)
      refine lv_aload_n hx hb dX3_part_33 rfl (lv_at hl 1 rfl) ?_
      refine va_get (D := (dC, dI)) (ci := 3) (v := .ref qgv) (C := RX3) (T := TX3) (N := 5) hx hb hts i_X3 hown hK hP 0 rfl rfl 2 (by decide) w_0 (fun _ h9 => h9) rfl dX3_part_34 ?_
      refine lv_iload_n hx hb dX3_part_37 rfl (lv_at hl 0 rfl) ?_
      refine ra_ld hx hb hK hP 3 0 rfl rfl (j := (r_1).toNatClampNeg) hn_r_1.1 (by omega) (by omega) dX3_part_38 ?_
      exact W.iret (v := (gv ((r_1).toNatClampNeg))) hx hb hr (fun t ht hW => ⟨_, rfl, hE.symm, ht⟩) (fun q h => by cases h) dX3_part_39
    ·
      have hE := hE.trans (if_pos c_3)
      refine lv_aload_n hx hb dX3_part_24 rfl (lv_at hl 1 rfl) ?_
      refine va_get (D := (dC, dI)) (ci := 3) (v := .ref qgk) (C := RX3) (T := TX3) (N := 5) hx hb hts i_X3 hown hK hP 0 rfl rfl 1 (by decide) w_1 (fun _ h9 => h9) rfl dX3_part_25 ?_
      refine lv_iload_n hx hb dX3_part_28 rfl (lv_at hl 0 rfl) ?_
      refine ra_ld hx hb hK hP 2 0 rfl rfl (j := (r_1).toNatClampNeg) hn_r_1.1 (by omega) (by omega) dX3_part_29 ?_
      refine lv_goto (tgt := 39) hx hb dX3_part_30 (by decide) ?_
      exact W.iret (v := (gk ((r_1).toNatClampNeg))) hx hb hr (fun t ht hW => ⟨_, rfl, hE.symm, ht⟩) (fun q h => by cases h) dX3_part_39
  ·
    have hE := hE.trans (if_pos c_2)
    refine lv_aload_n hx hb dX3_part_10 rfl (lv_at hl 1 rfl) ?_
    refine va_get (D := (dC, dI)) (ci := 3) (v := .ref qgt) (C := RX3) (T := TX3) (N := 5) hx hb hts i_X3 hown hK hP 0 rfl rfl 0 (by decide) w_2 (fun _ h9 => h9) rfl dX3_part_11 ?_
    refine lv_iload_n hx hb dX3_part_14 rfl (lv_at hl 0 rfl) ?_
    refine ra_ld hx hb hK hP 1 0 rfl rfl (j := (r_1).toNatClampNeg) hn_r_1.1 (by omega) (by omega) dX3_part_15 ?_
    refine lv_goto (tgt := 39) hx hb dX3_part_16 (by decide) ?_
    exact W.iret (v := (gt ((r_1).toNatClampNeg))) hx hb hr (fun t ht hW => ⟨_, rfl, hE.symm, ht⟩) (fun q h => by cases h) dX3_part_39
def x_X3_hash_b27 (go : Int32) (gt : Nat → Int32) (gk : Nat → Int32) (gv : Nat → Int32) (k5_15 : Nat) (rec15 : Int64 → Nat → (Int64)) (rec27 : Int64 → Nat → (Int64)) : Int64 → Nat → (Int64) :=
  fun v3_27 k6_27 => if 3 ≤ k6_27 then (rec15 v3_27 (k5_15 + 1)) else (spLet (x_X3_part go gt gk gv (nI k5_15) (nI k6_27)) (fun r_4 => spLet ((((31 : Int64) * v3_27) + r_4.toInt64)) (fun x_5 => rec27 x_5 (k6_27 + 1))))
def x_X3_hash_b15 (go : Int32) (gc : Int32) (gt : Nat → Int32) (gk : Nat → Int32) (gv : Nat → Int32) (rec15 : Int64 → Nat → (Int64)) : Int64 → Nat → (Int64) :=
  fun v3_15 k5_15 => if gc.toNatClampNeg ≤ k5_15 then v3_15 else (spIter (fun _ _ => default) (x_X3_hash_b27 go gt gk gv k5_15 rec15) 4 v3_15 0)
def x_X3_hash (go : Int32) (gc : Int32) (gt : Nat → Int32) (gk : Nat → Int32) (gv : Nat → Int32) (sta : Int64) : Int64 :=
  spLet ((((31 : Int64) * sta) + gc.toInt64)) (fun x_1 => spIter (fun _ _ => default) (x_X3_hash_b15 go gc gt gk gv) 31 x_1 0)
set_option maxHeartbeats 1000000 in
set_option maxRecDepth 100000 in
theorem c_X3_hash (l : Launch) (dC : Nat → ClassId) (dI : Nat → Nat → Nat) (cyI : ClassId) (qg : Nat) (qgt : Nat) (qgk : Nat) (qgv : Nat) (go : Int32) (gc : Int32) (gt : Nat → Int32) (gk : Nat → Int32) (gv : Nat → Int32) (sta : Int64) (hgc : 0 ≤ gc.toInt ∧ gc.toInt ≤ 30) : Met l yX3_hash wqX3_hash ({ frames := 3, cells := 0, slots := 0, locals := 66 } : Room) (va_Pc [.ref qg, .long sta] (pB (dC, dI) [(qg, .inr (3, [.ref qgt, .ref qgk, .ref qgv, .int go, .int gc])), (qgt, .inl (cyI, 30, .inl gt)), (qgk, .inl (cyI, 30, .inl gk)), (qgv, .inl (cyI, 30, .inl gv))] [(cyI, .int)] eX)) (vp_Sl (fun r => r = (x_X3_hash go gc gt gk gv sta))) 0 0 aF := by
  refine Met.ofW (cc := cX3_hash) (maxL := 7) (ret := (some .long)) (by decide) rfl ?_
  intro p e s m args below meth c s₁ B hml hv
  obtain ⟨rfl, hP, hK, he⟩ := hv
  have hx := B.exec
  have hb := B.bytes
  have hr := B.returns
  have hts := atoms_spec (ws := wqX3_hash) B.pre
  have hown : s.vm.findClass RX3 = some m.cls := findClass_of_methodNamed B.named
  have hlocks := B.notSynchronized
  have w_0 := hts (Cond.constantLong RX3 42 (31)) (List.mem_cons_of_mem _ b_1038)
  have w_1 := hts (Cond.fieldLink RX3 29 "CraneLimiter$Log" "count" "I") (List.mem_cons_of_mem _ b_167)
  have i_X3 : ∀ w ∈ u_ws RX3 TX3 5, w ∈ wqX3_hash := fun w h => List.mem_cons_of_mem _ (bX3 w h)
  have hS : va_S aF s.heap s.heap [] := va_S.rf
  have hP : va_P (dC, dI) vwCl [(qg, .inr (3, [.ref qgt, .ref qgk, .ref qgv, .int go, .int gc])), (qgt, .inl (cyI, 30, .inl gt)), (qgk, .inl (cyI, 30, .inl gk)), (qgv, .inl (cyI, 30, .inl gv))] s.heap := hP
  have hl := lv_entry ([.ref qg, .long sta] : List Value) (n := 7) (Nat.le_of_ble_eq_true rfl)
  rw [lg_entry_eq]
  generalize (lg_sl ([.ref qg, .long sta] : List Value) ++ List.replicate (7 - (lg_sl ([.ref qg, .long sta] : List Value)).length) Slot.unset).toArray = ls at hl ⊢
  have hl : lv_has ls 7 [(0, .ref qg), (1, .long sta)] := hl
  have hE : x_X3_hash go gc gt gk gv sta = x_X3_hash go gc gt gk gv sta := rfl
  obtain ⟨hgn, hgb⟩ := nI_cl hgc.1
  refine lv_ldc2 (v := 31) hx hb hown w_0 dX3_hash_0 ?_
  refine lv_lload_n hx hb dX3_hash_3 rfl (lv_at hl 1 rfl) ?_
  refine lv_lmul hx hb dX3_hash_4 ?_
  refine lv_aload_n hx hb dX3_hash_5 rfl (lv_at hl 0 rfl) ?_
  refine va_get (D := (dC, dI)) (ci := 3) (v := .int gc) (C := RX3) (T := TX3) (N := 5) hx hb hts i_X3 hown hK hP 0 rfl rfl 4 (by decide) w_1 (fun _ h9 => h9) rfl dX3_hash_6 ?_
  refine lv_i2l hx hb dX3_hash_9 rfl ?_
  refine lv_ladd hx hb dX3_hash_10 ?_
  refine lv_topl (fun x_1 ex_1 => ?_)
  have hE := hE.trans (spLet_eq ex_1)
  refine lv_lstore_n (lv' := [(3, .long x_1), (0, .ref qg), (1, .long sta)]) hx hb dX3_hash_11 rfl hl (by decide) rfl (fun ls hl => ?_)
  refine lv_iconst (v := 0) hx hb dX3_hash_12 (by decide) ?_
  refine lv_istore (lv' := [(5, .int (0 : Int32)), (3, .long x_1), (0, .ref qg), (1, .long sta)]) hx hb dX3_hash_13 hl (by decide) rfl (fun ls hl => ?_)
  have L15 : ∀ (n15 : Nat) (v3_15 : Int64) (k5_15 : Nat) (hi : k5_15 ≤ 30 ∧ 30 < k5_15 + n15) (ls : Array Slot) (hl : lv_has ls 7 [(0, .ref qg), (3, .long v3_15), (5, .int (nI k5_15))]) (hE : (x_X3_hash go gc gt gk gv sta) = spIter (fun _ _ => default) (x_X3_hash_b15 go gc gt gk gv) n15 v3_15 k5_15), W p l e (headSpec wqX3_hash ({ frames := 3, cells := 0, slots := 0, locals := 66 } : Room)).room s m ([.ref qg, .long sta] : List Value).toArray below meth c s.heap [] 0 0 (MQ below (vp_Sl (fun r => r = (x_X3_hash go gc gt gk gv sta))) ([.ref qg, .long sta] : List Value).toArray s 0 0 aF) (F0 m 15 ls []) := by
    intro n15
    induction n15 with
    | zero =>
      intro v3_15 k5_15 hi ls hl hE
      exact absurd hi (by omega)
    | succ n15 ih15 =>
      intro v3_15 k5_15 hi ls hl hE
      have hE : (x_X3_hash go gc gt gk gv sta) = x_X3_hash_b15 go gc gt gk gv (spIter (fun _ _ => default) (x_X3_hash_b15 go gc gt gk gv) n15) v3_15 k5_15 := hE
      refine lv_iload hx hb dX3_hash_15 (lv_at hl 2 rfl) ?_
      refine lv_aload_n hx hb dX3_hash_17 rfl (lv_at hl 0 rfl) ?_
      refine va_get (D := (dC, dI)) (ci := 3) (v := .int gc) (C := RX3) (T := TX3) (N := 5) hx hb hts i_X3 hown hK hP 0 rfl rfl 4 (by decide) w_1 (fun _ h9 => h9) rfl dX3_hash_18 ?_
      refine lv_icmp_ge (tgt := 61) hx hb dX3_hash_21 (by decide) (fun c_2 => ?_) (fun c_2 => ?_)
      ·
        have c_2 : gc.toNatClampNeg ≤ k5_15 := by
          have h1 : ((nI k5_15)) = nI k5_15 := rfl
          have h2 : (gc) = nI gc.toNatClampNeg := hgn
          have h3 : (nI gc.toNatClampNeg ≤ nI k5_15) := by first | exact c_2 | (rw [← h1, ← h2]; exact c_2)
          exact (nI_leI (by omega) (by omega)).mp h3
        have hE := hE.trans (if_pos c_2)
        refine lv_lload_n hx hb dX3_hash_61 rfl (lv_at hl 1 rfl) ?_
        exact W.lret (v := v3_15) hx hb hr (fun t ht hW => ⟨_, rfl, hE.symm, ht⟩) (fun q h => by cases h) dX3_hash_62
      ·
        have c_2 : ¬ gc.toNatClampNeg ≤ k5_15 := by
          have h1 : ((nI k5_15)) = nI k5_15 := rfl
          have h2 : (gc) = nI gc.toNatClampNeg := hgn
          have h3 : ¬ (nI gc.toNatClampNeg ≤ nI k5_15) := by first | exact c_2 | (rw [← h1, ← h2]; exact c_2)
          exact fun h => h3 ((nI_leI (by omega) (by omega)).mpr h)
        have hE := hE.trans (if_neg c_2)
        refine lv_iconst (v := 0) hx hb dX3_hash_24 (by decide) ?_
        refine lv_istore (lv' := [(6, .int (0 : Int32)), (0, .ref qg), (3, .long v3_15), (5, .int (nI k5_15))]) hx hb dX3_hash_25 hl (by decide) rfl (fun ls hl => ?_)
        have L27 : ∀ (n27 : Nat) (v3_27 : Int64) (k6_27 : Nat) (hi : k6_27 ≤ 3 ∧ 3 < k6_27 + n27) (ls : Array Slot) (hl : lv_has ls 7 [(0, .ref qg), (3, .long v3_27), (5, .int (nI k5_15)), (6, .int (nI k6_27))]) (hE : (x_X3_hash go gc gt gk gv sta) = spIter (fun _ _ => default) (x_X3_hash_b27 go gt gk gv k5_15 (spIter (fun _ _ => default) (x_X3_hash_b15 go gc gt gk gv) n15)) n27 v3_27 k6_27), W p l e (headSpec wqX3_hash ({ frames := 3, cells := 0, slots := 0, locals := 66 } : Room)).room s m ([.ref qg, .long sta] : List Value).toArray below meth c s.heap [] 0 0 (MQ below (vp_Sl (fun r => r = (x_X3_hash go gc gt gk gv sta))) ([.ref qg, .long sta] : List Value).toArray s 0 0 aF) (F0 m 27 ls []) := by
          intro n27
          induction n27 with
          | zero =>
            intro v3_27 k6_27 hi ls hl hE
            exact absurd hi (by omega)
          | succ n27 ih27 =>
            intro v3_27 k6_27 hi ls hl hE
            have hE : (x_X3_hash go gc gt gk gv sta) = x_X3_hash_b27 go gt gk gv k5_15 (spIter (fun _ _ => default) (x_X3_hash_b15 go gc gt gk gv) n15) (spIter (fun _ _ => default) (x_X3_hash_b27 go gt gk gv k5_15 (spIter (fun _ _ => default) (x_X3_hash_b15 go gc gt gk gv) n15)) n27) v3_27 k6_27 := hE
            refine lv_iload hx hb dX3_hash_27 (lv_at hl 3 rfl) ?_
            refine lv_iconst (v := 3) hx hb dX3_hash_29 (by decide) ?_
            refine lv_icmp_ge (tgt := 55) hx hb dX3_hash_30 (by decide) (fun c_3 => ?_) (fun c_3 => ?_)
            ·
              have c_3 : 3 ≤ k6_27 := by
                have h1 : ((nI k6_27)) = nI k6_27 := rfl
                have h2 : ((3 : Int32)) = nI 3 := rfl
                have h3 : (nI 3 ≤ nI k6_27) := by first | exact c_3 | (rw [← h1, ← h2]; exact c_3)
                exact (nI_leI (by omega) (by omega)).mp h3
              have hE := hE.trans (if_pos c_3)
              refine lv_iinc (v := (nI (k5_15 + 1))) (lv' := [(5, .int (nI (k5_15 + 1))), (0, .ref qg), (3, .long v3_27), (6, .int (nI k6_27))]) hx hb dX3_hash_55 hl (k := 2) rfl (show _ from (congrArg (fun z => z + Int32.ofInt 1) (rfl)).trans (ninc _ 1)) (by decide) rfl (fun ls hl => ?_)
              refine lv_goto (tgt := 15) hx hb dX3_hash_58 (by decide) ?_
              exact ih15 v3_27 (k5_15 + 1) (by omega) ls (lv_sub hl [1, 2, 0] rfl) hE
            ·
              have c_3 : ¬ 3 ≤ k6_27 := by
                have h1 : ((nI k6_27)) = nI k6_27 := rfl
                have h2 : ((3 : Int32)) = nI 3 := rfl
                have h3 : ¬ (nI 3 ≤ nI k6_27) := by first | exact c_3 | (rw [← h1, ← h2]; exact c_3)
                exact fun h => h3 ((nI_leI (by omega) (by omega)).mpr h)
              have hE := hE.trans (if_neg c_3)
              refine lv_ldc2 (v := 31) hx hb hown w_0 dX3_hash_33 ?_
              refine lv_lload_n hx hb dX3_hash_36 rfl (lv_at hl 1 rfl) ?_
              refine lv_lmul hx hb dX3_hash_37 ?_
              refine lv_aload_n hx hb dX3_hash_38 rfl (lv_at hl 0 rfl) ?_
              refine lv_iload hx hb dX3_hash_39 (lv_at hl 2 rfl) ?_
              refine lv_iload hx hb dX3_hash_41 (lv_at hl 3 rfl) ?_
              refine vp_callSi (W.runV (As := [.int (nI k5_15), .int (nI k6_27)]) (rest := [.long ((31 : Int64) * v3_27)]) ⟨hx, hb, hml, hown, hts⟩ (c_X3_part l dC dI cyI qg qgt qgk qgv go gc gt gk gv (nI k5_15) (nI k6_27)) (cwV 2 hts (gBV b_1039 b_862 b_863 b_47 b_864) rfl rfl rfl (by decide +kernel) ⟨Nat.le_of_ble_eq_true rfl, Nat.le_of_ble_eq_true rfl⟩) (pre_v eX_ok he hS hP hK 0 rfl rfl rfl) rfl rfl hl.1 rfl (lv_room (Nat.le_of_ble_eq_true rfl)) dX3_hash_43 ⟨Nat.zero_le _, Nat.zero_le _⟩) (fun r_4 hr_4 => ?_)
              have hE := hE.trans (spLet_eq hr_4)
              refine lv_i2l hx hb dX3_hash_46 rfl ?_
              refine lv_ladd hx hb dX3_hash_47 ?_
              refine lv_topl (fun x_5 ex_5 => ?_)
              have hE := hE.trans (spLet_eq ex_5)
              refine lv_lstore_n (lv' := [(3, .long x_5), (0, .ref qg), (5, .int (nI k5_15)), (6, .int (nI k6_27))]) hx hb dX3_hash_48 rfl hl (by decide) rfl (fun ls hl => ?_)
              refine lv_iinc (v := (nI (k6_27 + 1))) (lv' := [(6, .int (nI (k6_27 + 1))), (3, .long x_5), (0, .ref qg), (5, .int (nI k5_15))]) hx hb dX3_hash_49 hl (k := 3) rfl (show _ from (congrArg (fun z => z + Int32.ofInt 1) (rfl)).trans (ninc _ 1)) (by decide) rfl (fun ls hl => ?_)
              refine lv_goto (tgt := 27) hx hb dX3_hash_52 (by decide) ?_
              exact ih27 x_5 (k6_27 + 1) (by omega) ls (lv_sub hl [2, 1, 3, 0] rfl) hE
        exact L27 4 v3_15 0 (by omega) ls (lv_sub hl [1, 2, 3, 0] rfl) hE
  exact L15 31 x_1 0 (by omega) ls (lv_sub hl [2, 1, 0] rfl) hE
def x_X6_followLift (yg : Int32) (yl : Nat → Int32) (ut : Int32) (sla : Int32) : Int32 × Int32 × (Nat → Int32) :=
  if 0 ≤ yg then (spLet ((if yg < ut then ut else yg)) (fun x_2 => if sla = 0 then (((-1 : Int32), x_2, yl)) else (spLet ((if (7 : Int32) < (x_2 / (125 : Int32)) then (7 : Int32) else (x_2 / (125 : Int32)))) (fun x_4 => spLet (((yl ((x_4).toNatClampNeg)) + (1 : Int32))) (fun x_5 => spLet (upd yl ((x_4).toNatClampNeg) x_5) (fun f_6 => (x_4, (-1 : Int32), f_6))))))) else (((-1 : Int32), yg, yl))
set_option maxHeartbeats 1000000 in
set_option maxRecDepth 100000 in
theorem c_X6_followLift (l : Launch) (dC : Nat → ClassId) (dI : Nat → Nat → Nat) (cyI : ClassId) (sz : Nat) (qy : Nat) (qys : Nat) (qyl : Nat) (yg : Int32) (ys : Nat → Int32) (yl : Nat → Int32) (ut : Int32) (sla : Int32) : Met l yX6_followLift wqX6_followLift ({ frames := 1, cells := 0, slots := 0, locals := 14 } : Room) (va_Pc [.ref qy, .int ut, .int sla] (pC (dC, dI) [(qy, .inr (6, [.ref qys, .ref qyl, .int yg])), (qys, .inl (cyI, 4, .inl ys)), (qyl, .inl (cyI, 8, .inl yl))] [(cyI, .int)] eX sz)) (va_Qi (fun (r : Int32) (u : Int32 × Int32 × (Nat → Int32)) => u = (x_X6_followLift yg yl ut sla) ∧ r = u.1) (fun (u : Int32 × Int32 × (Nat → Int32)) t => va_P (dC, dI) vwCl [(qy, .inr (6, [.ref qys, .ref qyl, .int (u.2.1)])), (qys, .inl (cyI, 4, .inl ys)), (qyl, .inl (cyI, 8, .inl (u.2.2)))] t.heap ∧ va_D (va_A [(qy, .inr (6, [.ref qys, .ref qyl, .int yg])), (qys, .inl (cyI, 4, .inl ys)), (qyl, .inl (cyI, 8, .inl yl))] sz) [(qy, .inr (6, [.ref qys, .ref qyl, .int (u.2.1)])), (qys, .inl (cyI, 4, .inl ys)), (qyl, .inl (cyI, 8, .inl (u.2.2)))]) (va_A [(qy, .inr (6, [.ref qys, .ref qyl, .int yg])), (qys, .inl (cyI, 4, .inl ys)), (qyl, .inl (cyI, 8, .inl yl))] sz)) 0 0 (va_A [(qy, .inr (6, [.ref qys, .ref qyl, .int yg])), (qys, .inl (cyI, 4, .inl ys)), (qyl, .inl (cyI, 8, .inl yl))] sz) := by
  refine Met.ofW (cc := cX6_followLift) (maxL := 4) (ret := (some .int)) (by decide) rfl ?_
  intro p e s m args below meth c s₁ B hml hv
  obtain ⟨rfl, hsz, hP, hK, hD0, he⟩ := hv
  have hx := B.exec
  have hb := B.bytes
  have hr := B.returns
  have hts := atoms_spec (ws := wqX6_followLift) B.pre
  have hown : s.vm.findClass RX6 = some m.cls := findClass_of_methodNamed B.named
  have hlocks := B.notSynchronized
  have w_0 := hts (Cond.fieldLink RX6 18 "CraneLimiter$Tally" "greatest" "I") (List.mem_cons_of_mem _ b_80)
  have w_1 := hts (Cond.methodLink RX6 28 Lib.Math.max.name) (List.mem_cons_of_mem _ b_623)
  have w_2 := hts (Cond.static Lib.Math.max.name) (List.mem_cons_of_mem _ b_352)
  have w_3 := hts (Cond.initialized "java/lang/Math") (List.mem_cons_of_mem _ b_128)
  have w_4 := hts (Cond.code Lib.Math.max.name Lib.Math.max.code 2 (some .int)) (List.mem_cons_of_mem _ b_353)
  have w_5 := hts (Cond.methodLink RX6 34 Lib.Math.min.name) (List.mem_cons_of_mem _ b_624)
  have w_6 := hts (Cond.static Lib.Math.min.name) (List.mem_cons_of_mem _ b_127)
  have w_7 := hts (Cond.code Lib.Math.min.name Lib.Math.min.code 2 (some .int)) (List.mem_cons_of_mem _ b_129)
  have w_8 := hts (Cond.fieldLink RX6 15 "CraneLimiter$Tally" "liftCounts" "[I") (List.mem_cons_of_mem _ b_79)
  have i_X6 : ∀ w ∈ u_ws RX6 TX6 3, w ∈ wqX6_followLift := fun w h => List.mem_cons_of_mem _ (bX6 w h)
  subst hsz
  have hD := hD0.self (sz := s.heap.size)
  generalize hAe : va_A [(qy, .inr (6, [.ref qys, .ref qyl, .int yg])), (qys, .inl (cyI, 4, .inl ys)), (qyl, .inl (cyI, 8, .inl yl))] s.heap.size = A at hD he ⊢
  have hA : ∀ q : Nat, s.heap.size ≤ q → A q := fun q h => by rw [← hAe]; exact Or.inr h
  have hS : va_S A s.heap s.heap [] := va_S.rf
  have hP : va_P (dC, dI) vwCl [(qy, .inr (6, [.ref qys, .ref qyl, .int yg])), (qys, .inl (cyI, 4, .inl ys)), (qyl, .inl (cyI, 8, .inl yl))] s.heap := hP
  have hl := lv_entry ([.ref qy, .int ut, .int sla] : List Value) (n := 4) (Nat.le_of_ble_eq_true rfl)
  rw [lg_entry_eq]
  generalize (lg_sl ([.ref qy, .int ut, .int sla] : List Value) ++ List.replicate (4 - (lg_sl ([.ref qy, .int ut, .int sla] : List Value)).length) Slot.unset).toArray = ls at hl ⊢
  have hl : lv_has ls 4 [(0, .ref qy), (1, .int ut), (2, .int sla)] := hl
  have hE : x_X6_followLift yg yl ut sla = x_X6_followLift yg yl ut sla := rfl
  refine lv_aload_n hx hb dX6_followLift_0 rfl (lv_at hl 0 rfl) ?_
  refine va_get (D := (dC, dI)) (ci := 6) (v := .int yg) (C := RX6) (T := TX6) (N := 3) hx hb hts i_X6 hown hK hP 0 rfl rfl 2 (by decide) w_0 (fun _ h9 => h9) rfl dX6_followLift_1 ?_
  refine lv_if_ge (tgt := 9) hx hb dX6_followLift_4 (by decide) (fun c_1 => ?_) (fun c_1 => ?_)
  ·
    have hE := hE.trans (if_pos c_1)
    refine lv_aload_n hx hb dX6_followLift_9 rfl (lv_at hl 0 rfl) ?_
    refine lv_aload_n hx hb dX6_followLift_10 rfl (lv_at hl 0 rfl) ?_
    refine va_get (D := (dC, dI)) (ci := 6) (v := .int yg) (C := RX6) (T := TX6) (N := 3) hx hb hts i_X6 hown hK hP 0 rfl rfl 2 (by decide) w_0 (fun _ h9 => h9) rfl dX6_followLift_11 ?_
    refine lv_iload_n hx hb dX6_followLift_14 rfl (lv_at hl 1 rfl) ?_
    refine va_mmax hx hb (hml.trans hl.1.symm) hown w_1 w_2 w_3 w_4 (Nat.le_of_ble_eq_true rfl) (Nat.le_of_ble_eq_true rfl) (Nat.le_of_ble_eq_true rfl) (Nat.le_of_ble_eq_true rfl) dX6_followLift_15 ?_
    refine lv_topi (fun x_2 ex_2 => ?_)
    have hE := hE.trans (spLet_eq ex_2)
    refine va_put (D := (dC, dI)) (ci := 6) (v := .int x_2) (ty := .int) (C := RX6) (T := TX6) (N := 3) hx hb hts i_X6 tyX6 tyX6_ok nmX6 hown hK hP hD hS 0 rfl rfl 2 (by decide) w_0 (fun _ h9 => h9) rfl (by decide +kernel) (rfl) (rfl) (Nat.le_of_ble_eq_true rfl) dX6_followLift_18 (fun H locs hP hD hS => ?_)
    have hP : va_P (dC, dI) vwCl [(qy, .inr (6, [.ref qys, .ref qyl, .int x_2])), (qys, .inl (cyI, 4, .inl ys)), (qyl, .inl (cyI, 8, .inl yl))] H := hP
    have hD : va_D A [(qy, .inr (6, [.ref qys, .ref qyl, .int x_2])), (qys, .inl (cyI, 4, .inl ys)), (qyl, .inl (cyI, 8, .inl yl))] := hD
    refine lv_iload_n hx hb dX6_followLift_21 rfl (lv_at hl 2 rfl) ?_
    refine lv_if_ne (tgt := 27) hx hb dX6_followLift_22 (by decide) (fun c_3 => ?_) (fun c_3 => ?_)
    ·
      have hE := hE.trans (if_neg c_3)
      refine lv_aload_n hx hb dX6_followLift_27 rfl (lv_at hl 0 rfl) ?_
      refine va_get (D := (dC, dI)) (ci := 6) (v := .int x_2) (C := RX6) (T := TX6) (N := 3) hx hb hts i_X6 hown hK hP 0 rfl rfl 2 (by decide) w_0 (fun _ h9 => h9) rfl dX6_followLift_28 ?_
      refine lv_bipush (v := 125) hx hb dX6_followLift_31 (by decide) ?_
      refine lv_idiv hx hb dX6_followLift_33 (by decide) ?_
      refine lv_bipush (v := 7) hx hb dX6_followLift_34 (by decide) ?_
      refine va_mmin hx hb (hml.trans hl.1.symm) hown w_5 w_6 w_3 w_7 (Nat.le_of_ble_eq_true rfl) (Nat.le_of_ble_eq_true rfl) (Nat.le_of_ble_eq_true rfl) (Nat.le_of_ble_eq_true rfl) dX6_followLift_36 ?_
      refine lv_topi (fun x_4 ex_4 => ?_)
      have hE := hE.trans (spLet_eq ex_4)
      refine lv_istore_n (lv' := [(3, .int x_4), (0, .ref qy), (1, .int ut), (2, .int sla)]) hx hb dX6_followLift_39 rfl hl (by decide) rfl (fun ls hl => ?_)
      have hlc := fl_n (by assumption) ex_2 ex_4
      have hlc2 := hlc.2
      refine lv_aload_n hx hb dX6_followLift_40 rfl (lv_at hl 1 rfl) ?_
      refine va_get (D := (dC, dI)) (ci := 6) (v := .ref qyl) (C := RX6) (T := TX6) (N := 3) hx hb hts i_X6 hown hK hP 0 rfl rfl 1 (by decide) w_8 (fun _ h9 => h9) rfl dX6_followLift_41 ?_
      refine lv_iload_n hx hb dX6_followLift_44 rfl (lv_at hl 0 rfl) ?_
      refine lv_dup2_11 hx hb dX6_followLift_45 rfl rfl ?_
      refine ra_ld hx hb hK hP 2 0 rfl rfl (j := (x_4).toNatClampNeg) hlc.1 (by omega) (by omega) dX6_followLift_46 ?_
      refine lv_iconst (v := 1) hx hb dX6_followLift_47 (by decide) ?_
      refine lv_iadd hx hb dX6_followLift_48 ?_
      refine lv_topi (fun x_5 ex_5 => ?_)
      have hE := hE.trans (spLet_eq ex_5)
      refine ra_st hx hb hK hP hD hS 2 0 rfl rfl (j := (x_4).toNatClampNeg) hlc.1 (by omega) (by omega) dX6_followLift_49 (fun H locs hP hD hS => ?_)
      have hP : va_P (dC, dI) vwCl [(qy, .inr (6, [.ref qys, .ref qyl, .int x_2])), (qys, .inl (cyI, 4, .inl ys)), (qyl, .inl (cyI, 8, .inl (upd yl ((x_4).toNatClampNeg) x_5)))] H := hP
      have hD : va_D A [(qy, .inr (6, [.ref qys, .ref qyl, .int x_2])), (qys, .inl (cyI, 4, .inl ys)), (qyl, .inl (cyI, 8, .inl (upd yl ((x_4).toNatClampNeg) x_5)))] := hD
      obtain ⟨f_6, ef_6⟩ : ∃ y : Nat → Int32, y = upd yl ((x_4).toNatClampNeg) x_5 := ⟨_, rfl⟩
      rw [← ef_6] at hP hD
      have hE := hE.trans (spLet_eq ef_6)
      refine lv_aload_n hx hb dX6_followLift_50 rfl (lv_at hl 1 rfl) ?_
      refine lv_iconst (v := -1) hx hb dX6_followLift_51 (by decide) ?_
      refine va_put (D := (dC, dI)) (ci := 6) (v := .int (-1 : Int32)) (ty := .int) (C := RX6) (T := TX6) (N := 3) hx hb hts i_X6 tyX6 tyX6_ok nmX6 hown hK hP hD hS 0 rfl rfl 2 (by decide) w_0 (fun _ h9 => h9) rfl (by decide +kernel) (rfl) (rfl) (Nat.le_of_ble_eq_true rfl) dX6_followLift_52 (fun H locs hP hD hS => ?_)
      have hP : va_P (dC, dI) vwCl [(qy, .inr (6, [.ref qys, .ref qyl, .int (-1 : Int32)])), (qys, .inl (cyI, 4, .inl ys)), (qyl, .inl (cyI, 8, .inl f_6))] H := hP
      have hD : va_D A [(qy, .inr (6, [.ref qys, .ref qyl, .int (-1 : Int32)])), (qys, .inl (cyI, 4, .inl ys)), (qyl, .inl (cyI, 8, .inl f_6))] := hD
      refine lv_iload_n hx hb dX6_followLift_55 rfl (lv_at hl 0 rfl) ?_
      exact W.iret (v := x_4) hx hb hr (fun t h9 hW => ⟨⟨x_4, ((x_4, (-1 : Int32), f_6) : Int32 × Int32 × (Nat → Int32)), rfl, ⟨hE.symm, rfl⟩, by rw [h9]; exact hP, hD⟩, hS.F h9⟩) hS.2.2 dX6_followLift_56
    ·
      have hE := hE.trans (if_pos c_3)
      refine lv_iconst (v := -1) hx hb dX6_followLift_25 (by decide) ?_
      exact W.iret (v := (-1 : Int32)) hx hb hr (fun t h9 hW => ⟨⟨(-1 : Int32), (((-1 : Int32), x_2, yl) : Int32 × Int32 × (Nat → Int32)), rfl, ⟨hE.symm, rfl⟩, by rw [h9]; exact hP, hD⟩, hS.F h9⟩) hS.2.2 dX6_followLift_26
  ·
    have hE := hE.trans (if_neg c_1)
    refine lv_iconst (v := -1) hx hb dX6_followLift_7 (by decide) ?_
    exact W.iret (v := (-1 : Int32)) hx hb hr (fun t h9 hW => ⟨⟨(-1 : Int32), (((-1 : Int32), yg, yl) : Int32 × Int32 × (Nat → Int32)), rfl, ⟨hE.symm, rfl⟩, by rw [h9]; exact hP, hD⟩, hS.F h9⟩) hS.2.2 dX6_followLift_8
def x_X6_loadSpectrum_b7 (yl : Nat → Int32) (rec7 : Int64 → Int64 → Nat → (Int32)) : Int64 → Int64 → Nat → (Int32) :=
  fun v1_7 v3_7 k5_7 => if 8 ≤ k5_7 then (if 0 < (lg_cmp v3_7 (0 : Int64)) then ((((1000 : Int64) * v1_7) / ((512 : Int64) * v3_7)).toInt32) else (-1 : Int32)) else (spLet ((v1_7 + (((((yl (k5_7)).toInt64) * ((nI (k5_7 + 1)).toInt64)) * ((nI (k5_7 + 1)).toInt64)) * ((nI (k5_7 + 1)).toInt64)))) (fun x_6 => spLet ((v3_7 + ((yl (k5_7)).toInt64))) (fun x_7 => rec7 x_6 x_7 (k5_7 + 1))))
def x_X6_loadSpectrum (yl : Nat → Int32) : Int32 :=
  spIter (fun _ _ _ => default) (x_X6_loadSpectrum_b7 yl) 9 (0 : Int64) (0 : Int64) 0
set_option maxHeartbeats 1000000 in
set_option maxRecDepth 100000 in
theorem c_X6_loadSpectrum (l : Launch) (dC : Nat → ClassId) (dI : Nat → Nat → Nat) (cyI : ClassId) (qy : Nat) (qys : Nat) (qyl : Nat) (yg : Int32) (ys : Nat → Int32) (yl : Nat → Int32) : Met l yX6_loadSpectrum wqX6_loadSpectrum ({ frames := 0, cells := 0, slots := 0, locals := 0 } : Room) (va_Pc [.ref qy] (pB (dC, dI) [(qy, .inr (6, [.ref qys, .ref qyl, .int yg])), (qys, .inl (cyI, 4, .inl ys)), (qyl, .inl (cyI, 8, .inl yl))] [(cyI, .int)] eX)) (vp_Si (fun r => r = (x_X6_loadSpectrum yl))) 0 0 aF := by
  refine Met.ofW (cc := cX6_loadSpectrum) (maxL := 6) (ret := (some .int)) (by decide) rfl ?_
  intro p e s m args below meth c s₁ B hml hv
  obtain ⟨rfl, hP, hK, he⟩ := hv
  have hx := B.exec
  have hb := B.bytes
  have hr := B.returns
  have hts := atoms_spec (ws := wqX6_loadSpectrum) B.pre
  have hown : s.vm.findClass RX6 = some m.cls := findClass_of_methodNamed B.named
  have hlocks := B.notSynchronized
  have w_0 := hts (Cond.constantLong RX6 37 (1000)) (List.mem_cons_of_mem _ b_902)
  have w_1 := hts (Cond.constantLong RX6 39 (512)) (List.mem_cons_of_mem _ b_903)
  have w_2 := hts (Cond.fieldLink RX6 15 "CraneLimiter$Tally" "liftCounts" "[I") (List.mem_cons_of_mem _ b_79)
  have i_X6 : ∀ w ∈ u_ws RX6 TX6 3, w ∈ wqX6_loadSpectrum := fun w h => List.mem_cons_of_mem _ (bX6 w h)
  have hS : va_S aF s.heap s.heap [] := va_S.rf
  have hP : va_P (dC, dI) vwCl [(qy, .inr (6, [.ref qys, .ref qyl, .int yg])), (qys, .inl (cyI, 4, .inl ys)), (qyl, .inl (cyI, 8, .inl yl))] s.heap := hP
  have hl := lv_entry ([.ref qy] : List Value) (n := 6) (Nat.le_of_ble_eq_true rfl)
  rw [lg_entry_eq]
  generalize (lg_sl ([.ref qy] : List Value) ++ List.replicate (6 - (lg_sl ([.ref qy] : List Value)).length) Slot.unset).toArray = ls at hl ⊢
  have hl : lv_has ls 6 [(0, .ref qy)] := hl
  have hE : x_X6_loadSpectrum yl = x_X6_loadSpectrum yl := rfl
  refine lv_lconst (v := 0) hx hb dX6_loadSpectrum_0 (by decide) ?_
  refine lv_lstore_n (lv' := [(1, .long (0 : Int64)), (0, .ref qy)]) hx hb dX6_loadSpectrum_1 rfl hl (by decide) rfl (fun ls hl => ?_)
  refine lv_lconst (v := 0) hx hb dX6_loadSpectrum_2 (by decide) ?_
  refine lv_lstore_n (lv' := [(3, .long (0 : Int64)), (1, .long (0 : Int64)), (0, .ref qy)]) hx hb dX6_loadSpectrum_3 rfl hl (by decide) rfl (fun ls hl => ?_)
  refine lv_iconst (v := 0) hx hb dX6_loadSpectrum_4 (by decide) ?_
  refine lv_istore (lv' := [(5, .int (0 : Int32)), (3, .long (0 : Int64)), (1, .long (0 : Int64)), (0, .ref qy)]) hx hb dX6_loadSpectrum_5 hl (by decide) rfl (fun ls hl => ?_)
  have L7 : ∀ (n7 : Nat) (v1_7 : Int64) (v3_7 : Int64) (k5_7 : Nat) (hi : -(2147483648 * (k5_7 : Int)) ≤ (v3_7).toInt ∧ (v3_7).toInt ≤ 2147483648 * (k5_7 : Int) ∧ k5_7 ≤ 8 ∧ 8 < k5_7 + n7) (ls : Array Slot) (hl : lv_has ls 6 [(0, .ref qy), (1, .long v1_7), (3, .long v3_7), (5, .int (nI k5_7))]) (hE : (x_X6_loadSpectrum yl) = spIter (fun _ _ _ => default) (x_X6_loadSpectrum_b7 yl) n7 v1_7 v3_7 k5_7), W p l e (headSpec wqX6_loadSpectrum ({ frames := 0, cells := 0, slots := 0, locals := 0 } : Room)).room s m ([.ref qy] : List Value).toArray below meth c s.heap [] 0 0 (MQ below (vp_Si (fun r => r = (x_X6_loadSpectrum yl))) ([.ref qy] : List Value).toArray s 0 0 aF) (F0 m 7 ls []) := by
    intro n7
    induction n7 with
    | zero =>
      intro v1_7 v3_7 k5_7 hi ls hl hE
      exact absurd hi (by omega)
    | succ n7 ih7 =>
      intro v1_7 v3_7 k5_7 hi ls hl hE
      have hE : (x_X6_loadSpectrum yl) = x_X6_loadSpectrum_b7 yl (spIter (fun _ _ _ => default) (x_X6_loadSpectrum_b7 yl) n7) v1_7 v3_7 k5_7 := hE
      refine lv_iload hx hb dX6_loadSpectrum_7 (lv_at hl 3 rfl) ?_
      refine lv_bipush (v := 8) hx hb dX6_loadSpectrum_9 (by decide) ?_
      refine lv_icmp_ge (tgt := 60) hx hb dX6_loadSpectrum_11 (by decide) (fun c_1 => ?_) (fun c_1 => ?_)
      ·
        have c_1 : 8 ≤ k5_7 := by
          have h1 : ((nI k5_7)) = nI k5_7 := rfl
          have h2 : ((8 : Int32)) = nI 8 := rfl
          have h3 : (nI 8 ≤ nI k5_7) := by first | exact c_1 | (rw [← h1, ← h2]; exact c_1)
          exact (nI_leI (by omega) (by omega)).mp h3
        have hE := hE.trans (if_pos c_1)
        refine lv_lload_n hx hb dX6_loadSpectrum_60 rfl (lv_at hl 2 rfl) ?_
        refine lv_lconst (v := 0) hx hb dX6_loadSpectrum_61 (by decide) ?_
        refine W.lcmp hx hb dX6_loadSpectrum_62 ?_
        refine lv_if_gt (tgt := 70) hx hb dX6_loadSpectrum_63 (by decide) (fun c_2 => ?_) (fun c_2 => ?_)
        ·
          have hE := hE.trans (if_pos c_2)
          refine lv_ldc2 (v := 1000) hx hb hown w_0 dX6_loadSpectrum_70 ?_
          refine lv_lload_n hx hb dX6_loadSpectrum_73 rfl (lv_at hl 1 rfl) ?_
          refine lv_lmul hx hb dX6_loadSpectrum_74 ?_
          refine lv_ldc2 (v := 512) hx hb hown w_1 dX6_loadSpectrum_75 ?_
          refine lv_lload_n hx hb dX6_loadSpectrum_78 rfl (lv_at hl 2 rfl) ?_
          refine lv_lmul hx hb dX6_loadSpectrum_79 ?_
          refine lv_ldiv hx hb dX6_loadSpectrum_80 (sp_ne hi (xsp (by assumption))) ?_
          refine lv_l2i hx hb dX6_loadSpectrum_81 rfl ?_
          exact W.iret (v := (((1000 : Int64) * v1_7) / ((512 : Int64) * v3_7)).toInt32) hx hb hr (fun t ht hW => ⟨_, rfl, hE.symm, ht⟩) (fun q h => by cases h) dX6_loadSpectrum_82
        ·
          have hE := hE.trans (if_neg c_2)
          refine lv_iconst (v := -1) hx hb dX6_loadSpectrum_66 (by decide) ?_
          refine lv_goto (tgt := 82) hx hb dX6_loadSpectrum_67 (by decide) ?_
          exact W.iret (v := (-1 : Int32)) hx hb hr (fun t ht hW => ⟨_, rfl, hE.symm, ht⟩) (fun q h => by cases h) dX6_loadSpectrum_82
      ·
        have c_1 : ¬ 8 ≤ k5_7 := by
          have h1 : ((nI k5_7)) = nI k5_7 := rfl
          have h2 : ((8 : Int32)) = nI 8 := rfl
          have h3 : ¬ (nI 8 ≤ nI k5_7) := by first | exact c_1 | (rw [← h1, ← h2]; exact c_1)
          exact fun h => h3 ((nI_leI (by omega) (by omega)).mpr h)
        have hE := hE.trans (if_neg c_1)
        refine lv_lload_n hx hb dX6_loadSpectrum_14 rfl (lv_at hl 1 rfl) ?_
        refine lv_aload_n hx hb dX6_loadSpectrum_15 rfl (lv_at hl 0 rfl) ?_
        refine va_get (D := (dC, dI)) (ci := 6) (v := .ref qyl) (C := RX6) (T := TX6) (N := 3) hx hb hts i_X6 hown hK hP 0 rfl rfl 1 (by decide) w_2 (fun _ h9 => h9) rfl dX6_loadSpectrum_16 ?_
        refine lv_iload hx hb dX6_loadSpectrum_19 (lv_at hl 3 rfl) ?_
        refine ra_ld hx hb hK hP 2 0 rfl rfl (j := k5_7) (rfl : (nI k5_7) = nI k5_7) (by omega) (by omega) dX6_loadSpectrum_21 ?_
        refine lv_i2l hx hb dX6_loadSpectrum_22 rfl ?_
        refine lv_iload hx hb dX6_loadSpectrum_23 (lv_at hl 3 rfl) ?_
        refine lv_iconst (v := 1) hx hb dX6_loadSpectrum_25 (by decide) ?_
        refine lv_iadd hx hb dX6_loadSpectrum_26 ?_
        refine lv_topi (fun y_3 ey_3 => ?_)
        obtain rfl : y_3 = nI (k5_7 + 1) := ey_3.trans (nadd (rfl : (nI k5_7) = nI k5_7) (rfl : (1 : Int32) = nI 1))
        refine lv_i2l hx hb dX6_loadSpectrum_27 rfl ?_
        refine lv_lmul hx hb dX6_loadSpectrum_28 ?_
        refine lv_iload hx hb dX6_loadSpectrum_29 (lv_at hl 3 rfl) ?_
        refine lv_iconst (v := 1) hx hb dX6_loadSpectrum_31 (by decide) ?_
        refine lv_iadd hx hb dX6_loadSpectrum_32 ?_
        refine lv_topi (fun y_4 ey_4 => ?_)
        obtain rfl : y_4 = nI (k5_7 + 1) := ey_4.trans (nadd (rfl : (nI k5_7) = nI k5_7) (rfl : (1 : Int32) = nI 1))
        refine lv_i2l hx hb dX6_loadSpectrum_33 rfl ?_
        refine lv_lmul hx hb dX6_loadSpectrum_34 ?_
        refine lv_iload hx hb dX6_loadSpectrum_35 (lv_at hl 3 rfl) ?_
        refine lv_iconst (v := 1) hx hb dX6_loadSpectrum_37 (by decide) ?_
        refine lv_iadd hx hb dX6_loadSpectrum_38 ?_
        refine lv_topi (fun y_5 ey_5 => ?_)
        obtain rfl : y_5 = nI (k5_7 + 1) := ey_5.trans (nadd (rfl : (nI k5_7) = nI k5_7) (rfl : (1 : Int32) = nI 1))
        refine lv_i2l hx hb dX6_loadSpectrum_39 rfl ?_
        refine lv_lmul hx hb dX6_loadSpectrum_40 ?_
        refine lv_ladd hx hb dX6_loadSpectrum_41 ?_
        refine lv_topl (fun x_6 ex_6 => ?_)
        have hE := hE.trans (spLet_eq ex_6)
        refine lv_lstore_n (lv' := [(1, .long x_6), (0, .ref qy), (3, .long v3_7), (5, .int (nI k5_7))]) hx hb dX6_loadSpectrum_42 rfl hl (by decide) rfl (fun ls hl => ?_)
        refine lv_lload_n hx hb dX6_loadSpectrum_43 rfl (lv_at hl 2 rfl) ?_
        refine lv_aload_n hx hb dX6_loadSpectrum_44 rfl (lv_at hl 1 rfl) ?_
        refine va_get (D := (dC, dI)) (ci := 6) (v := .ref qyl) (C := RX6) (T := TX6) (N := 3) hx hb hts i_X6 hown hK hP 0 rfl rfl 1 (by decide) w_2 (fun _ h9 => h9) rfl dX6_loadSpectrum_45 ?_
        refine lv_iload hx hb dX6_loadSpectrum_48 (lv_at hl 3 rfl) ?_
        refine ra_ld hx hb hK hP 2 0 rfl rfl (j := k5_7) (rfl : (nI k5_7) = nI k5_7) (by omega) (by omega) dX6_loadSpectrum_50 ?_
        refine lv_i2l hx hb dX6_loadSpectrum_51 rfl ?_
        refine lv_ladd hx hb dX6_loadSpectrum_52 ?_
        refine lv_topl (fun x_7 ex_7 => ?_)
        have hE := hE.trans (spLet_eq ex_7)
        refine lv_lstore_n (lv' := [(3, .long x_7), (1, .long x_6), (0, .ref qy), (5, .int (nI k5_7))]) hx hb dX6_loadSpectrum_53 rfl hl (by decide) rfl (fun ls hl => ?_)
        refine lv_iinc (v := (nI (k5_7 + 1))) (lv' := [(5, .int (nI (k5_7 + 1))), (3, .long x_7), (1, .long x_6), (0, .ref qy)]) hx hb dX6_loadSpectrum_54 hl (k := 3) rfl (show _ from (congrArg (fun z => z + Int32.ofInt 1) (rfl)).trans (ninc _ 1)) (by decide) rfl (fun ls hl => ?_)
        refine lv_goto (tgt := 7) hx hb dX6_loadSpectrum_57 (by decide) ?_
        exact ih7 x_6 x_7 (k5_7 + 1) (sp_step ex_7 hi (by assumption)) ls (lv_sub hl [3, 2, 1, 0] rfl) hE
  exact L7 9 (0 : Int64) (0 : Int64) 0 ⟨by decide, by decide, by omega, by omega⟩ ls (lv_sub hl [3, 2, 1, 0] rfl) hE
def x_X2_massFor (lom : Int64) (rad : Int32) : Int32 :=
  spLet ((rad + (150 : Int32))) (fun x_1 => if (lg_cmp lom (0 : Int64)) ≤ 0 then (0 : Int32) else (if 0 < x_1 then ((lom / x_1.toInt64).toInt32) else (0 : Int32)))
set_option maxHeartbeats 1000000 in
set_option maxRecDepth 100000 in
theorem c_X2_massFor (l : Launch) (dC : Nat → ClassId) (dI : Nat → Nat → Nat) (cyI : ClassId) (lom : Int64) (rad : Int32) : Met l yX2_massFor wqX2_massFor ({ frames := 0, cells := 0, slots := 0, locals := 0 } : Room) (va_Pc [.long lom, .int rad] (pB (dC, dI) [] [] eX)) (vp_Si (fun r => r = (x_X2_massFor lom rad))) 0 0 aF := by
  refine Met.ofW (cc := cX2_massFor) (maxL := 4) (ret := (some .int)) (by decide) rfl ?_
  intro p e s m args below meth c s₁ B hml hv
  obtain ⟨rfl, hP, hK, he⟩ := hv
  have hx := B.exec
  have hb := B.bytes
  have hr := B.returns
  have hts := atoms_spec (ws := wqX2_massFor) B.pre
  have hown : s.vm.findClass RX2 = some m.cls := findClass_of_methodNamed B.named
  have hlocks := B.notSynchronized
  have hS : va_S aF s.heap s.heap [] := va_S.rf
  have hP : va_P (dC, dI) vwCl [] s.heap := hP
  have hl := lv_entry ([.long lom, .int rad] : List Value) (n := 4) (Nat.le_of_ble_eq_true rfl)
  rw [lg_entry_eq]
  generalize (lg_sl ([.long lom, .int rad] : List Value) ++ List.replicate (4 - (lg_sl ([.long lom, .int rad] : List Value)).length) Slot.unset).toArray = ls at hl ⊢
  have hl : lv_has ls 4 [(0, .long lom), (2, .int rad)] := hl
  have hE : x_X2_massFor lom rad = x_X2_massFor lom rad := rfl
  refine lv_iload_n hx hb dX2_massFor_0 rfl (lv_at hl 1 rfl) ?_
  refine lv_sipush (v := 150) hx hb dX2_massFor_1 (by decide) ?_
  refine lv_iadd hx hb dX2_massFor_4 ?_
  refine lv_topi (fun x_1 ex_1 => ?_)
  have hE := hE.trans (spLet_eq ex_1)
  refine lv_istore_n (lv' := [(3, .int x_1), (0, .long lom), (2, .int rad)]) hx hb dX2_massFor_5 rfl hl (by decide) rfl (fun ls hl => ?_)
  refine lv_lload_n hx hb dX2_massFor_6 rfl (lv_at hl 1 rfl) ?_
  refine lv_lconst (v := 0) hx hb dX2_massFor_7 (by decide) ?_
  refine W.lcmp hx hb dX2_massFor_8 ?_
  refine lv_if_le (tgt := 16) hx hb dX2_massFor_9 (by decide) (fun c_2 => ?_) (fun c_2 => ?_)
  ·
    have hE := hE.trans (if_pos c_2)
    refine lv_iconst (v := 0) hx hb dX2_massFor_16 (by decide) ?_
    refine lv_goto (tgt := 25) hx hb dX2_massFor_17 (by decide) ?_
    exact W.iret (v := (0 : Int32)) hx hb hr (fun t ht hW => ⟨_, rfl, hE.symm, ht⟩) (fun q h => by cases h) dX2_massFor_25
  ·
    have hE := hE.trans (if_neg c_2)
    refine lv_iload_n hx hb dX2_massFor_12 rfl (lv_at hl 0 rfl) ?_
    refine lv_if_gt (tgt := 20) hx hb dX2_massFor_13 (by decide) (fun c_3 => ?_) (fun c_3 => ?_)
    ·
      have hE := hE.trans (if_pos c_3)
      have hne := xne_lt (x := x_1) (by assumption)
      refine lv_lload_n hx hb dX2_massFor_20 rfl (lv_at hl 1 rfl) ?_
      refine lv_iload_n hx hb dX2_massFor_21 rfl (lv_at hl 0 rfl) ?_
      refine lv_i2l hx hb dX2_massFor_22 rfl ?_
      refine lv_ldiv hx hb dX2_massFor_23 (ne0_l hne) ?_
      refine lv_l2i hx hb dX2_massFor_24 rfl ?_
      exact W.iret (v := (lom / x_1.toInt64).toInt32) hx hb hr (fun t ht hW => ⟨_, rfl, hE.symm, ht⟩) (fun q h => by cases h) dX2_massFor_25
    ·
      have hE := hE.trans (if_neg c_3)
      refine lv_iconst (v := 0) hx hb dX2_massFor_16 (by decide) ?_
      refine lv_goto (tgt := 25) hx hb dX2_massFor_17 (by decide) ?_
      exact W.iret (v := (0 : Int32)) hx hb hr (fun t ht hW => ⟨_, rfl, hE.symm, ht⟩) (fun q h => by cases h) dX2_massFor_25
def x_X2_read (bln : Int32) (ban : Int32) (bte : Int32) (bma : Int32) (bta : Int32) : Int32 × Int32 × Int32 × Int32 :=
  spLet (x_X0_radius bln ban) (fun r_1 => spLet (x_X0_boomMoment bln r_1) (fun r_2 => spLet (x_X0_hanging bte bma bta) (fun r_3 => spLet (x_X0_deflection bln r_3.toInt64) (fun r_4 => spLet (((r_1.toInt64 + r_4) + (150 : Int64))) (fun x_5 => spLet ((((r_3.toInt64 * x_5) + r_2) / (500 : Int64)).toInt32) (fun x_6 => spLet ((((500 : Int64) * x_6.toInt64) - r_2)) (fun x_7 => spLet (x_X2_massFor x_7 r_1) (fun r_8 => spLet (x_X0_deflection bln r_8.toInt64) (fun r_10 => spLet ((r_1 + r_10.toInt32)) (fun x_11 => spLet (x_X2_massFor x_7 x_11) (fun r_12 => spLet (x_X0_deflection bln r_12.toInt64) (fun r_14 => spLet ((r_1 + r_14.toInt32)) (fun x_15 => spLet (x_X2_massFor x_7 x_15) (fun r_16 => spLet (x_X0_deflection bln r_16.toInt64) (fun r_18 => spLet ((r_1 + r_18.toInt32)) (fun x_19 => spLet (x_X2_massFor x_7 x_19) (fun r_20 => spLet ((if (r_20 - bta) < (0 : Int32) then (0 : Int32) else (r_20 - bta))) (fun x_22 => (x_6, r_20, x_19, x_22)))))))))))))))))))
set_option maxHeartbeats 1000000 in
set_option maxRecDepth 100000 in
theorem c_X2_read (l : Launch) (dC : Nat → ClassId) (dI : Nat → Nat → Nat) (cyI : ClassId) (sz : Nat) (qu : Nat) (up : Int32) (um : Int32) (ur : Int32) (un : Int32) (qb : Nat) (bln : Int32) (ban : Int32) (bsl : Int32) (bhe : Int32) (bte : Int32) (bma : Int32) (bta : Int32) : Met l yX2_read wqX2_read ({ frames := 2, cells := 0, slots := 0, locals := 42 } : Room) (va_Pc [.ref qu, .ref qb] (pC (dC, dI) [(qu, .inr (2, [.int up, .int um, .int ur, .int un])), (qb, .inr (0, [.int bln, .int ban, .int bsl, .int bhe, .int bte, .int bma, .int bta]))] [(cyI, .int)] eX sz)) (va_Qv (fun u : Int32 × Int32 × Int32 × Int32 => u = (x_X2_read bln ban bte bma bta)) (fun (u : Int32 × Int32 × Int32 × Int32) t => va_P (dC, dI) vwCl [(qu, .inr (2, [.int (u.1), .int (u.2.1), .int (u.2.2.1), .int (u.2.2.2)])), (qb, .inr (0, [.int bln, .int ban, .int bsl, .int bhe, .int bte, .int bma, .int bta]))] t.heap ∧ va_D (va_A [(qu, .inr (2, [.int up, .int um, .int ur, .int un])), (qb, .inr (0, [.int bln, .int ban, .int bsl, .int bhe, .int bte, .int bma, .int bta]))] sz) [(qu, .inr (2, [.int (u.1), .int (u.2.1), .int (u.2.2.1), .int (u.2.2.2)])), (qb, .inr (0, [.int bln, .int ban, .int bsl, .int bhe, .int bte, .int bma, .int bta]))]) (va_A [(qu, .inr (2, [.int up, .int um, .int ur, .int un])), (qb, .inr (0, [.int bln, .int ban, .int bsl, .int bhe, .int bte, .int bma, .int bta]))] sz)) 0 0 (va_A [(qu, .inr (2, [.int up, .int um, .int ur, .int un])), (qb, .inr (0, [.int bln, .int ban, .int bsl, .int bhe, .int bte, .int bma, .int bta]))] sz) := by
  refine Met.ofW (cc := cX2_read) (maxL := 12) (ret := none) (by decide) rfl ?_
  intro p e s m args below meth c s₁ B hml hv
  obtain ⟨rfl, hsz, hP, hK, hD0, he⟩ := hv
  have hx := B.exec
  have hb := B.bytes
  have hr := B.returns
  have hts := atoms_spec (ws := wqX2_read) B.pre
  have hown : s.vm.findClass RX2 = some m.cls := findClass_of_methodNamed B.named
  have hlocks := B.notSynchronized
  have w_0 := hts (Cond.constantLong RX2 24 (150)) (List.mem_cons_of_mem _ b_531)
  have w_1 := hts (Cond.constantLong RX2 26 (500)) (List.mem_cons_of_mem _ b_532)
  have w_2 := hts (Cond.fieldLink RX2 28 "CraneLimiter$Gauge" "pressure" "I") (List.mem_cons_of_mem _ b_533)
  have w_3 := hts (Cond.fieldLink RX2 38 "CraneLimiter$Gauge" "mass" "I") (List.mem_cons_of_mem _ b_534)
  have w_4 := hts (Cond.fieldLink RX2 41 "CraneLimiter$Gauge" "radius" "I") (List.mem_cons_of_mem _ b_535)
  have w_5 := hts (Cond.fieldLink RX2 43 "CraneLimiter$Boom" "tare" "I") (List.mem_cons_of_mem _ b_536)
  have w_6 := hts (Cond.methodLink RX2 46 Lib.Math.max.name) (List.mem_cons_of_mem _ b_537)
  have w_7 := hts (Cond.static Lib.Math.max.name) (List.mem_cons_of_mem _ b_352)
  have w_8 := hts (Cond.initialized "java/lang/Math") (List.mem_cons_of_mem _ b_128)
  have w_9 := hts (Cond.code Lib.Math.max.name Lib.Math.max.code 2 (some .int)) (List.mem_cons_of_mem _ b_353)
  have w_10 := hts (Cond.fieldLink RX2 52 "CraneLimiter$Gauge" "net" "I") (List.mem_cons_of_mem _ b_538)
  have i_X0 : ∀ w ∈ u_ws RX0 TX0 7, w ∈ wqX2_read := fun w h => List.mem_cons_of_mem _ (bX0 w h)
  have i_X2 : ∀ w ∈ u_ws RX2 TX2 4, w ∈ wqX2_read := fun w h => List.mem_cons_of_mem _ (bX2 w h)
  subst hsz
  have hD := hD0.self (sz := s.heap.size)
  generalize hAe : va_A [(qu, .inr (2, [.int up, .int um, .int ur, .int un])), (qb, .inr (0, [.int bln, .int ban, .int bsl, .int bhe, .int bte, .int bma, .int bta]))] s.heap.size = A at hD he ⊢
  have hA : ∀ q : Nat, s.heap.size ≤ q → A q := fun q h => by rw [← hAe]; exact Or.inr h
  have hS : va_S A s.heap s.heap [] := va_S.rf
  have hP : va_P (dC, dI) vwCl [(qu, .inr (2, [.int up, .int um, .int ur, .int un])), (qb, .inr (0, [.int bln, .int ban, .int bsl, .int bhe, .int bte, .int bma, .int bta]))] s.heap := hP
  have hl := lv_entry ([.ref qu, .ref qb] : List Value) (n := 12) (Nat.le_of_ble_eq_true rfl)
  rw [lg_entry_eq]
  generalize (lg_sl ([.ref qu, .ref qb] : List Value) ++ List.replicate (12 - (lg_sl ([.ref qu, .ref qb] : List Value)).length) Slot.unset).toArray = ls at hl ⊢
  have hl : lv_has ls 12 [(0, .ref qu), (1, .ref qb)] := hl
  have hE : x_X2_read bln ban bte bma bta = x_X2_read bln ban bte bma bta := rfl
  refine lv_aload_n hx hb dX2_read_0 rfl (lv_at hl 1 rfl) ?_
  refine vp_callSi (W.runV (As := []) (rest := []) ⟨hx, hb, hml, hown, hts⟩ (c_X0_radius l dC dI cyI qb bln ban bsl bhe bte bma bta) (cwV 0 hts (gBV b_539 b_355 b_356 b_30 b_357) rfl rfl rfl (by decide +kernel) ⟨Nat.le_of_ble_eq_true rfl, Nat.le_of_ble_eq_true rfl⟩) (pre_v eX_ok he hS (hP.sub (ws' := [(qb, .inr (0, [.int bln, .int ban, .int bsl, .int bhe, .int bte, .int bma, .int bta]))]) [1] rfl) hK 0 rfl rfl rfl) rfl rfl hl.1 rfl (lv_room (Nat.le_of_ble_eq_true rfl)) dX2_read_1 ⟨Nat.zero_le _, Nat.zero_le _⟩) (fun r_1 hr_1 => ?_)
  have hE := hE.trans (spLet_eq hr_1)
  refine lv_istore_n (lv' := [(2, .int r_1), (0, .ref qu), (1, .ref qb)]) hx hb dX2_read_4 rfl hl (by decide) rfl (fun ls hl => ?_)
  refine lv_aload_n hx hb dX2_read_5 rfl (lv_at hl 2 rfl) ?_
  refine lv_iload_n hx hb dX2_read_6 rfl (lv_at hl 0 rfl) ?_
  refine vp_callSl (W.runV (As := [.int r_1]) (rest := []) ⟨hx, hb, hml, hown, hts⟩ (c_X0_boomMoment l dC dI cyI qb bln ban bsl bhe bte bma bta r_1) (cwV 1 hts (gBV b_540 b_541 b_542 b_30 b_543) rfl rfl rfl (by decide +kernel) ⟨Nat.le_of_ble_eq_true rfl, Nat.le_of_ble_eq_true rfl⟩) (pre_v eX_ok he hS (hP.sub (ws' := [(qb, .inr (0, [.int bln, .int ban, .int bsl, .int bhe, .int bte, .int bma, .int bta]))]) [1] rfl) hK 0 rfl rfl rfl) rfl rfl hl.1 rfl (lv_room (Nat.le_of_ble_eq_true rfl)) dX2_read_7 ⟨Nat.zero_le _, Nat.zero_le _⟩) (fun r_2 hr_2 => ?_)
  have hE := hE.trans (spLet_eq hr_2)
  refine lv_lstore_n (lv' := [(3, .long r_2), (2, .int r_1), (0, .ref qu), (1, .ref qb)]) hx hb dX2_read_10 rfl hl (by decide) rfl (fun ls hl => ?_)
  refine lv_aload_n hx hb dX2_read_11 rfl (lv_at hl 3 rfl) ?_
  refine vp_callSi (W.runV (As := []) (rest := []) ⟨hx, hb, hml, hown, hts⟩ (c_X0_hanging l dC dI cyI qb bln ban bsl bhe bte bma bta) (cwV 0 hts (gBV b_544 b_545 b_546 b_30 b_547) rfl rfl rfl (by decide +kernel) ⟨Nat.le_of_ble_eq_true rfl, Nat.le_of_ble_eq_true rfl⟩) (pre_v eX_ok he hS (hP.sub (ws' := [(qb, .inr (0, [.int bln, .int ban, .int bsl, .int bhe, .int bte, .int bma, .int bta]))]) [1] rfl) hK 0 rfl rfl rfl) rfl rfl hl.1 rfl (lv_room (Nat.le_of_ble_eq_true rfl)) dX2_read_12 ⟨Nat.zero_le _, Nat.zero_le _⟩) (fun r_3 hr_3 => ?_)
  have hE := hE.trans (spLet_eq hr_3)
  refine lv_i2l hx hb dX2_read_15 rfl ?_
  refine lv_lstore (lv' := [(5, .long r_3.toInt64), (3, .long r_2), (2, .int r_1), (0, .ref qu), (1, .ref qb)]) hx hb dX2_read_16 hl (by decide) rfl (fun ls hl => ?_)
  refine lv_iload_n hx hb dX2_read_18 rfl (lv_at hl 2 rfl) ?_
  refine lv_i2l hx hb dX2_read_19 rfl ?_
  refine lv_aload_n hx hb dX2_read_20 rfl (lv_at hl 4 rfl) ?_
  refine lv_lload hx hb dX2_read_21 (lv_at hl 0 rfl) ?_
  refine vp_callSl (W.runV (As := [.long r_3.toInt64]) (rest := [.long r_1.toInt64]) ⟨hx, hb, hml, hown, hts⟩ (c_X0_deflection l dC dI cyI qb bln ban bsl bhe bte bma bta r_3.toInt64) (cwV 1 hts (gBV b_548 b_549 b_550 b_30 b_551) rfl rfl rfl (by decide +kernel) ⟨Nat.le_of_ble_eq_true rfl, Nat.le_of_ble_eq_true rfl⟩) (pre_v eX_ok he hS (hP.sub (ws' := [(qb, .inr (0, [.int bln, .int ban, .int bsl, .int bhe, .int bte, .int bma, .int bta]))]) [1] rfl) hK 0 rfl rfl rfl) rfl rfl hl.1 rfl (lv_room (Nat.le_of_ble_eq_true rfl)) dX2_read_23 ⟨Nat.zero_le _, Nat.zero_le _⟩) (fun r_4 hr_4 => ?_)
  have hE := hE.trans (spLet_eq hr_4)
  refine lv_ladd hx hb dX2_read_26 ?_
  refine lv_ldc2 (v := 150) hx hb hown w_0 dX2_read_27 ?_
  refine lv_ladd hx hb dX2_read_30 ?_
  refine lv_topl (fun x_5 ex_5 => ?_)
  have hE := hE.trans (spLet_eq ex_5)
  refine lv_lstore (lv' := [(7, .long x_5), (5, .long r_3.toInt64), (3, .long r_2), (2, .int r_1), (0, .ref qu), (1, .ref qb)]) hx hb dX2_read_31 hl (by decide) rfl (fun ls hl => ?_)
  refine lv_aload_n hx hb dX2_read_33 rfl (lv_at hl 4 rfl) ?_
  refine lv_lload hx hb dX2_read_34 (lv_at hl 1 rfl) ?_
  refine lv_lload hx hb dX2_read_36 (lv_at hl 0 rfl) ?_
  refine lv_lmul hx hb dX2_read_38 ?_
  refine lv_lload_n hx hb dX2_read_39 rfl (lv_at hl 2 rfl) ?_
  refine lv_ladd hx hb dX2_read_40 ?_
  refine lv_ldc2 (v := 500) hx hb hown w_1 dX2_read_41 ?_
  refine lv_ldiv hx hb dX2_read_44 (by decide) ?_
  refine lv_l2i hx hb dX2_read_45 rfl ?_
  refine lv_topi (fun x_6 ex_6 => ?_)
  have hE := hE.trans (spLet_eq ex_6)
  refine va_put (D := (dC, dI)) (ci := 2) (v := .int x_6) (ty := .int) (C := RX2) (T := TX2) (N := 4) hx hb hts i_X2 tyX2 tyX2_ok nmX2 hown hK hP hD hS 0 rfl rfl 0 (by decide) w_2 (fun _ h9 => h9) rfl (by decide +kernel) (rfl) (rfl) (Nat.le_of_ble_eq_true rfl) dX2_read_46 (fun H locs hP hD hS => ?_)
  have hP : va_P (dC, dI) vwCl [(qu, .inr (2, [.int x_6, .int um, .int ur, .int un])), (qb, .inr (0, [.int bln, .int ban, .int bsl, .int bhe, .int bte, .int bma, .int bta]))] H := hP
  have hD : va_D A [(qu, .inr (2, [.int x_6, .int um, .int ur, .int un])), (qb, .inr (0, [.int bln, .int ban, .int bsl, .int bhe, .int bte, .int bma, .int bta]))] := hD
  refine lv_ldc2 (v := 500) hx hb hown w_1 dX2_read_49 ?_
  refine lv_aload_n hx hb dX2_read_52 rfl (lv_at hl 4 rfl) ?_
  refine va_get (D := (dC, dI)) (ci := 2) (v := .int x_6) (C := RX2) (T := TX2) (N := 4) hx hb hts i_X2 hown hK hP 0 rfl rfl 0 (by decide) w_2 (fun _ h9 => h9) rfl dX2_read_53 ?_
  refine lv_i2l hx hb dX2_read_56 rfl ?_
  refine lv_lmul hx hb dX2_read_57 ?_
  refine lv_lload_n hx hb dX2_read_58 rfl (lv_at hl 2 rfl) ?_
  refine lv_lsub hx hb dX2_read_59 ?_
  refine lv_topl (fun x_7 ex_7 => ?_)
  have hE := hE.trans (spLet_eq ex_7)
  refine lv_lstore (lv' := [(9, .long x_7), (7, .long x_5), (5, .long r_3.toInt64), (3, .long r_2), (2, .int r_1), (0, .ref qu), (1, .ref qb)]) hx hb dX2_read_60 hl (by decide) rfl (fun ls hl => ?_)
  refine lv_aload_n hx hb dX2_read_62 rfl (lv_at hl 5 rfl) ?_
  refine lv_lload hx hb dX2_read_63 (lv_at hl 0 rfl) ?_
  refine lv_iload_n hx hb dX2_read_65 rfl (lv_at hl 4 rfl) ?_
  refine vp_callSi (W.runS (As := [.long x_7, .int r_1]) (rest := [.ref qu]) ⟨hx, hb, hml, hown, hts⟩ (c_X2_massFor l dC dI cyI x_7 r_1) (va_cwS 2 hts (gBS b_553 b_554 b_26 b_555) rfl rfl rfl (by decide +kernel) ⟨Nat.le_of_ble_eq_true rfl, Nat.le_of_ble_eq_true rfl⟩) (pre_s eX_ok he hS (hP.sub (ws' := []) [] rfl) (hK.sub (tys' := []) [] rfl)) rfl rfl hl.1 rfl (lv_room (Nat.le_of_ble_eq_true rfl)) dX2_read_66 ⟨Nat.zero_le _, Nat.zero_le _⟩) (fun r_8 hr_8 => ?_)
  have hE := hE.trans (spLet_eq hr_8)
  refine va_put (D := (dC, dI)) (ci := 2) (v := .int r_8) (ty := .int) (C := RX2) (T := TX2) (N := 4) hx hb hts i_X2 tyX2 tyX2_ok nmX2 hown hK hP hD hS 0 rfl rfl 1 (by decide) w_3 (fun _ h9 => h9) rfl (by decide +kernel) (rfl) (rfl) (Nat.le_of_ble_eq_true rfl) dX2_read_69 (fun H locs hP hD hS => ?_)
  have hP : va_P (dC, dI) vwCl [(qu, .inr (2, [.int x_6, .int r_8, .int ur, .int un])), (qb, .inr (0, [.int bln, .int ban, .int bsl, .int bhe, .int bte, .int bma, .int bta]))] H := hP
  have hD : va_D A [(qu, .inr (2, [.int x_6, .int r_8, .int ur, .int un])), (qb, .inr (0, [.int bln, .int ban, .int bsl, .int bhe, .int bte, .int bma, .int bta]))] := hD
  refine lv_iconst (v := 0) hx hb dX2_read_72 (by decide) ?_
  refine lv_istore (lv' := [(11, .int (0 : Int32)), (9, .long x_7), (7, .long x_5), (5, .long r_3.toInt64), (3, .long r_2), (2, .int r_1), (0, .ref qu), (1, .ref qb)]) hx hb dX2_read_73 hl (by decide) rfl (fun ls hl => ?_)
  refine lv_iload hx hb dX2_read_75 (lv_at hl 0 rfl) ?_
  refine lv_iconst (v := 3) hx hb dX2_read_77 (by decide) ?_
  refine lv_icmp_ge (tgt := 116) hx hb dX2_read_78 (by decide) (fun c_9 => absurd c_9 (by decide)) (fun c_9 => ?_)
  refine lv_aload_n hx hb dX2_read_81 rfl (lv_at hl 6 rfl) ?_
  refine lv_iload_n hx hb dX2_read_82 rfl (lv_at hl 5 rfl) ?_
  refine lv_aload_n hx hb dX2_read_83 rfl (lv_at hl 7 rfl) ?_
  refine lv_aload_n hx hb dX2_read_84 rfl (lv_at hl 6 rfl) ?_
  refine va_get (D := (dC, dI)) (ci := 2) (v := .int r_8) (C := RX2) (T := TX2) (N := 4) hx hb hts i_X2 hown hK hP 0 rfl rfl 1 (by decide) w_3 (fun _ h9 => h9) rfl dX2_read_85 ?_
  refine lv_i2l hx hb dX2_read_88 rfl ?_
  refine vp_callSl (W.runV (As := [.long r_8.toInt64]) (rest := [.int r_1, .ref qu]) ⟨hx, hb, hml, hown, hts⟩ (c_X0_deflection l dC dI cyI qb bln ban bsl bhe bte bma bta r_8.toInt64) (cwV 1 hts (gBV b_548 b_549 b_550 b_30 b_551) rfl rfl rfl (by decide +kernel) ⟨Nat.le_of_ble_eq_true rfl, Nat.le_of_ble_eq_true rfl⟩) (pre_v eX_ok he hS (hP.sub (ws' := [(qb, .inr (0, [.int bln, .int ban, .int bsl, .int bhe, .int bte, .int bma, .int bta]))]) [1] rfl) hK 0 rfl rfl rfl) rfl rfl hl.1 rfl (lv_room (Nat.le_of_ble_eq_true rfl)) dX2_read_89 ⟨Nat.zero_le _, Nat.zero_le _⟩) (fun r_10 hr_10 => ?_)
  have hE := hE.trans (spLet_eq hr_10)
  refine lv_l2i hx hb dX2_read_92 rfl ?_
  refine lv_iadd hx hb dX2_read_93 ?_
  refine lv_topi (fun x_11 ex_11 => ?_)
  have hE := hE.trans (spLet_eq ex_11)
  refine va_put (D := (dC, dI)) (ci := 2) (v := .int x_11) (ty := .int) (C := RX2) (T := TX2) (N := 4) hx hb hts i_X2 tyX2 tyX2_ok nmX2 hown hK hP hD hS 0 rfl rfl 2 (by decide) w_4 (fun _ h9 => h9) rfl (by decide +kernel) (rfl) (rfl) (Nat.le_of_ble_eq_true rfl) dX2_read_94 (fun H locs hP hD hS => ?_)
  have hP : va_P (dC, dI) vwCl [(qu, .inr (2, [.int x_6, .int r_8, .int x_11, .int un])), (qb, .inr (0, [.int bln, .int ban, .int bsl, .int bhe, .int bte, .int bma, .int bta]))] H := hP
  have hD : va_D A [(qu, .inr (2, [.int x_6, .int r_8, .int x_11, .int un])), (qb, .inr (0, [.int bln, .int ban, .int bsl, .int bhe, .int bte, .int bma, .int bta]))] := hD
  refine lv_aload_n hx hb dX2_read_97 rfl (lv_at hl 6 rfl) ?_
  refine lv_lload hx hb dX2_read_98 (lv_at hl 1 rfl) ?_
  refine lv_aload_n hx hb dX2_read_100 rfl (lv_at hl 6 rfl) ?_
  refine va_get (D := (dC, dI)) (ci := 2) (v := .int x_11) (C := RX2) (T := TX2) (N := 4) hx hb hts i_X2 hown hK hP 0 rfl rfl 2 (by decide) w_4 (fun _ h9 => h9) rfl dX2_read_101 ?_
  refine vp_callSi (W.runS (As := [.long x_7, .int x_11]) (rest := [.ref qu]) ⟨hx, hb, hml, hown, hts⟩ (c_X2_massFor l dC dI cyI x_7 x_11) (va_cwS 2 hts (gBS b_553 b_554 b_26 b_555) rfl rfl rfl (by decide +kernel) ⟨Nat.le_of_ble_eq_true rfl, Nat.le_of_ble_eq_true rfl⟩) (pre_s eX_ok he hS (hP.sub (ws' := []) [] rfl) (hK.sub (tys' := []) [] rfl)) rfl rfl hl.1 rfl (lv_room (Nat.le_of_ble_eq_true rfl)) dX2_read_104 ⟨Nat.zero_le _, Nat.zero_le _⟩) (fun r_12 hr_12 => ?_)
  have hE := hE.trans (spLet_eq hr_12)
  refine va_put (D := (dC, dI)) (ci := 2) (v := .int r_12) (ty := .int) (C := RX2) (T := TX2) (N := 4) hx hb hts i_X2 tyX2 tyX2_ok nmX2 hown hK hP hD hS 0 rfl rfl 1 (by decide) w_3 (fun _ h9 => h9) rfl (by decide +kernel) (rfl) (rfl) (Nat.le_of_ble_eq_true rfl) dX2_read_107 (fun H locs hP hD hS => ?_)
  have hP : va_P (dC, dI) vwCl [(qu, .inr (2, [.int x_6, .int r_12, .int x_11, .int un])), (qb, .inr (0, [.int bln, .int ban, .int bsl, .int bhe, .int bte, .int bma, .int bta]))] H := hP
  have hD : va_D A [(qu, .inr (2, [.int x_6, .int r_12, .int x_11, .int un])), (qb, .inr (0, [.int bln, .int ban, .int bsl, .int bhe, .int bte, .int bma, .int bta]))] := hD
  refine lv_iinc (v := (nI (0 + 1))) (lv' := [(11, .int (nI (0 + 1))), (9, .long x_7), (7, .long x_5), (5, .long r_3.toInt64), (3, .long r_2), (2, .int r_1), (0, .ref qu), (1, .ref qb)]) hx hb dX2_read_110 hl (k := 0) rfl (show _ from (congrArg (fun z => z + Int32.ofInt 1) (rfl)).trans (ninc _ 1)) (by decide) rfl (fun ls hl => ?_)
  refine lv_goto (tgt := 75) hx hb dX2_read_113 (by decide) ?_
  refine lv_iload hx hb dX2_read_75 (lv_at hl 0 rfl) ?_
  refine lv_iconst (v := 3) hx hb dX2_read_77 (by decide) ?_
  refine lv_icmp_ge (tgt := 116) hx hb dX2_read_78 (by decide) (fun c_13 => absurd c_13 (by decide)) (fun c_13 => ?_)
  refine lv_aload_n hx hb dX2_read_81 rfl (lv_at hl 6 rfl) ?_
  refine lv_iload_n hx hb dX2_read_82 rfl (lv_at hl 5 rfl) ?_
  refine lv_aload_n hx hb dX2_read_83 rfl (lv_at hl 7 rfl) ?_
  refine lv_aload_n hx hb dX2_read_84 rfl (lv_at hl 6 rfl) ?_
  refine va_get (D := (dC, dI)) (ci := 2) (v := .int r_12) (C := RX2) (T := TX2) (N := 4) hx hb hts i_X2 hown hK hP 0 rfl rfl 1 (by decide) w_3 (fun _ h9 => h9) rfl dX2_read_85 ?_
  refine lv_i2l hx hb dX2_read_88 rfl ?_
  refine vp_callSl (W.runV (As := [.long r_12.toInt64]) (rest := [.int r_1, .ref qu]) ⟨hx, hb, hml, hown, hts⟩ (c_X0_deflection l dC dI cyI qb bln ban bsl bhe bte bma bta r_12.toInt64) (cwV 1 hts (gBV b_548 b_549 b_550 b_30 b_551) rfl rfl rfl (by decide +kernel) ⟨Nat.le_of_ble_eq_true rfl, Nat.le_of_ble_eq_true rfl⟩) (pre_v eX_ok he hS (hP.sub (ws' := [(qb, .inr (0, [.int bln, .int ban, .int bsl, .int bhe, .int bte, .int bma, .int bta]))]) [1] rfl) hK 0 rfl rfl rfl) rfl rfl hl.1 rfl (lv_room (Nat.le_of_ble_eq_true rfl)) dX2_read_89 ⟨Nat.zero_le _, Nat.zero_le _⟩) (fun r_14 hr_14 => ?_)
  have hE := hE.trans (spLet_eq hr_14)
  refine lv_l2i hx hb dX2_read_92 rfl ?_
  refine lv_iadd hx hb dX2_read_93 ?_
  refine lv_topi (fun x_15 ex_15 => ?_)
  have hE := hE.trans (spLet_eq ex_15)
  refine va_put (D := (dC, dI)) (ci := 2) (v := .int x_15) (ty := .int) (C := RX2) (T := TX2) (N := 4) hx hb hts i_X2 tyX2 tyX2_ok nmX2 hown hK hP hD hS 0 rfl rfl 2 (by decide) w_4 (fun _ h9 => h9) rfl (by decide +kernel) (rfl) (rfl) (Nat.le_of_ble_eq_true rfl) dX2_read_94 (fun H locs hP hD hS => ?_)
  have hP : va_P (dC, dI) vwCl [(qu, .inr (2, [.int x_6, .int r_12, .int x_15, .int un])), (qb, .inr (0, [.int bln, .int ban, .int bsl, .int bhe, .int bte, .int bma, .int bta]))] H := hP
  have hD : va_D A [(qu, .inr (2, [.int x_6, .int r_12, .int x_15, .int un])), (qb, .inr (0, [.int bln, .int ban, .int bsl, .int bhe, .int bte, .int bma, .int bta]))] := hD
  refine lv_aload_n hx hb dX2_read_97 rfl (lv_at hl 6 rfl) ?_
  refine lv_lload hx hb dX2_read_98 (lv_at hl 1 rfl) ?_
  refine lv_aload_n hx hb dX2_read_100 rfl (lv_at hl 6 rfl) ?_
  refine va_get (D := (dC, dI)) (ci := 2) (v := .int x_15) (C := RX2) (T := TX2) (N := 4) hx hb hts i_X2 hown hK hP 0 rfl rfl 2 (by decide) w_4 (fun _ h9 => h9) rfl dX2_read_101 ?_
  refine vp_callSi (W.runS (As := [.long x_7, .int x_15]) (rest := [.ref qu]) ⟨hx, hb, hml, hown, hts⟩ (c_X2_massFor l dC dI cyI x_7 x_15) (va_cwS 2 hts (gBS b_553 b_554 b_26 b_555) rfl rfl rfl (by decide +kernel) ⟨Nat.le_of_ble_eq_true rfl, Nat.le_of_ble_eq_true rfl⟩) (pre_s eX_ok he hS (hP.sub (ws' := []) [] rfl) (hK.sub (tys' := []) [] rfl)) rfl rfl hl.1 rfl (lv_room (Nat.le_of_ble_eq_true rfl)) dX2_read_104 ⟨Nat.zero_le _, Nat.zero_le _⟩) (fun r_16 hr_16 => ?_)
  have hE := hE.trans (spLet_eq hr_16)
  refine va_put (D := (dC, dI)) (ci := 2) (v := .int r_16) (ty := .int) (C := RX2) (T := TX2) (N := 4) hx hb hts i_X2 tyX2 tyX2_ok nmX2 hown hK hP hD hS 0 rfl rfl 1 (by decide) w_3 (fun _ h9 => h9) rfl (by decide +kernel) (rfl) (rfl) (Nat.le_of_ble_eq_true rfl) dX2_read_107 (fun H locs hP hD hS => ?_)
  have hP : va_P (dC, dI) vwCl [(qu, .inr (2, [.int x_6, .int r_16, .int x_15, .int un])), (qb, .inr (0, [.int bln, .int ban, .int bsl, .int bhe, .int bte, .int bma, .int bta]))] H := hP
  have hD : va_D A [(qu, .inr (2, [.int x_6, .int r_16, .int x_15, .int un])), (qb, .inr (0, [.int bln, .int ban, .int bsl, .int bhe, .int bte, .int bma, .int bta]))] := hD
  refine lv_iinc (v := (nI ((0 + 1) + 1))) (lv' := [(11, .int (nI ((0 + 1) + 1))), (9, .long x_7), (7, .long x_5), (5, .long r_3.toInt64), (3, .long r_2), (2, .int r_1), (0, .ref qu), (1, .ref qb)]) hx hb dX2_read_110 hl (k := 0) rfl (show _ from (congrArg (fun z => z + Int32.ofInt 1) (rfl)).trans (ninc _ 1)) (by decide) rfl (fun ls hl => ?_)
  refine lv_goto (tgt := 75) hx hb dX2_read_113 (by decide) ?_
  refine lv_iload hx hb dX2_read_75 (lv_at hl 0 rfl) ?_
  refine lv_iconst (v := 3) hx hb dX2_read_77 (by decide) ?_
  refine lv_icmp_ge (tgt := 116) hx hb dX2_read_78 (by decide) (fun c_17 => absurd c_17 (by decide)) (fun c_17 => ?_)
  refine lv_aload_n hx hb dX2_read_81 rfl (lv_at hl 6 rfl) ?_
  refine lv_iload_n hx hb dX2_read_82 rfl (lv_at hl 5 rfl) ?_
  refine lv_aload_n hx hb dX2_read_83 rfl (lv_at hl 7 rfl) ?_
  refine lv_aload_n hx hb dX2_read_84 rfl (lv_at hl 6 rfl) ?_
  refine va_get (D := (dC, dI)) (ci := 2) (v := .int r_16) (C := RX2) (T := TX2) (N := 4) hx hb hts i_X2 hown hK hP 0 rfl rfl 1 (by decide) w_3 (fun _ h9 => h9) rfl dX2_read_85 ?_
  refine lv_i2l hx hb dX2_read_88 rfl ?_
  refine vp_callSl (W.runV (As := [.long r_16.toInt64]) (rest := [.int r_1, .ref qu]) ⟨hx, hb, hml, hown, hts⟩ (c_X0_deflection l dC dI cyI qb bln ban bsl bhe bte bma bta r_16.toInt64) (cwV 1 hts (gBV b_548 b_549 b_550 b_30 b_551) rfl rfl rfl (by decide +kernel) ⟨Nat.le_of_ble_eq_true rfl, Nat.le_of_ble_eq_true rfl⟩) (pre_v eX_ok he hS (hP.sub (ws' := [(qb, .inr (0, [.int bln, .int ban, .int bsl, .int bhe, .int bte, .int bma, .int bta]))]) [1] rfl) hK 0 rfl rfl rfl) rfl rfl hl.1 rfl (lv_room (Nat.le_of_ble_eq_true rfl)) dX2_read_89 ⟨Nat.zero_le _, Nat.zero_le _⟩) (fun r_18 hr_18 => ?_)
  have hE := hE.trans (spLet_eq hr_18)
  refine lv_l2i hx hb dX2_read_92 rfl ?_
  refine lv_iadd hx hb dX2_read_93 ?_
  refine lv_topi (fun x_19 ex_19 => ?_)
  have hE := hE.trans (spLet_eq ex_19)
  refine va_put (D := (dC, dI)) (ci := 2) (v := .int x_19) (ty := .int) (C := RX2) (T := TX2) (N := 4) hx hb hts i_X2 tyX2 tyX2_ok nmX2 hown hK hP hD hS 0 rfl rfl 2 (by decide) w_4 (fun _ h9 => h9) rfl (by decide +kernel) (rfl) (rfl) (Nat.le_of_ble_eq_true rfl) dX2_read_94 (fun H locs hP hD hS => ?_)
  have hP : va_P (dC, dI) vwCl [(qu, .inr (2, [.int x_6, .int r_16, .int x_19, .int un])), (qb, .inr (0, [.int bln, .int ban, .int bsl, .int bhe, .int bte, .int bma, .int bta]))] H := hP
  have hD : va_D A [(qu, .inr (2, [.int x_6, .int r_16, .int x_19, .int un])), (qb, .inr (0, [.int bln, .int ban, .int bsl, .int bhe, .int bte, .int bma, .int bta]))] := hD
  refine lv_aload_n hx hb dX2_read_97 rfl (lv_at hl 6 rfl) ?_
  refine lv_lload hx hb dX2_read_98 (lv_at hl 1 rfl) ?_
  refine lv_aload_n hx hb dX2_read_100 rfl (lv_at hl 6 rfl) ?_
  refine va_get (D := (dC, dI)) (ci := 2) (v := .int x_19) (C := RX2) (T := TX2) (N := 4) hx hb hts i_X2 hown hK hP 0 rfl rfl 2 (by decide) w_4 (fun _ h9 => h9) rfl dX2_read_101 ?_
  refine vp_callSi (W.runS (As := [.long x_7, .int x_19]) (rest := [.ref qu]) ⟨hx, hb, hml, hown, hts⟩ (c_X2_massFor l dC dI cyI x_7 x_19) (va_cwS 2 hts (gBS b_553 b_554 b_26 b_555) rfl rfl rfl (by decide +kernel) ⟨Nat.le_of_ble_eq_true rfl, Nat.le_of_ble_eq_true rfl⟩) (pre_s eX_ok he hS (hP.sub (ws' := []) [] rfl) (hK.sub (tys' := []) [] rfl)) rfl rfl hl.1 rfl (lv_room (Nat.le_of_ble_eq_true rfl)) dX2_read_104 ⟨Nat.zero_le _, Nat.zero_le _⟩) (fun r_20 hr_20 => ?_)
  have hE := hE.trans (spLet_eq hr_20)
  refine va_put (D := (dC, dI)) (ci := 2) (v := .int r_20) (ty := .int) (C := RX2) (T := TX2) (N := 4) hx hb hts i_X2 tyX2 tyX2_ok nmX2 hown hK hP hD hS 0 rfl rfl 1 (by decide) w_3 (fun _ h9 => h9) rfl (by decide +kernel) (rfl) (rfl) (Nat.le_of_ble_eq_true rfl) dX2_read_107 (fun H locs hP hD hS => ?_)
  have hP : va_P (dC, dI) vwCl [(qu, .inr (2, [.int x_6, .int r_20, .int x_19, .int un])), (qb, .inr (0, [.int bln, .int ban, .int bsl, .int bhe, .int bte, .int bma, .int bta]))] H := hP
  have hD : va_D A [(qu, .inr (2, [.int x_6, .int r_20, .int x_19, .int un])), (qb, .inr (0, [.int bln, .int ban, .int bsl, .int bhe, .int bte, .int bma, .int bta]))] := hD
  refine lv_iinc (v := (nI (((0 + 1) + 1) + 1))) (lv' := [(11, .int (nI (((0 + 1) + 1) + 1))), (9, .long x_7), (7, .long x_5), (5, .long r_3.toInt64), (3, .long r_2), (2, .int r_1), (0, .ref qu), (1, .ref qb)]) hx hb dX2_read_110 hl (k := 0) rfl (show _ from (congrArg (fun z => z + Int32.ofInt 1) (rfl)).trans (ninc _ 1)) (by decide) rfl (fun ls hl => ?_)
  refine lv_goto (tgt := 75) hx hb dX2_read_113 (by decide) ?_
  refine lv_iload hx hb dX2_read_75 (lv_at hl 0 rfl) ?_
  refine lv_iconst (v := 3) hx hb dX2_read_77 (by decide) ?_
  refine lv_icmp_ge (tgt := 116) hx hb dX2_read_78 (by decide) (fun c_21 => ?_) (fun c_21 => absurd c_21 (by decide))
  refine lv_aload_n hx hb dX2_read_116 rfl (lv_at hl 6 rfl) ?_
  refine lv_aload_n hx hb dX2_read_117 rfl (lv_at hl 6 rfl) ?_
  refine va_get (D := (dC, dI)) (ci := 2) (v := .int r_20) (C := RX2) (T := TX2) (N := 4) hx hb hts i_X2 hown hK hP 0 rfl rfl 1 (by decide) w_3 (fun _ h9 => h9) rfl dX2_read_118 ?_
  refine lv_aload_n hx hb dX2_read_121 rfl (lv_at hl 7 rfl) ?_
  refine va_get (D := (dC, dI)) (ci := 0) (v := .int bta) (C := RX0) (T := TX0) (N := 7) hx hb hts i_X0 hown hK hP 1 rfl rfl 6 (by decide) w_5 (fun _ h9 => h9) rfl dX2_read_122 ?_
  refine lv_isub hx hb dX2_read_125 ?_
  refine lv_iconst (v := 0) hx hb dX2_read_126 (by decide) ?_
  refine va_mmax hx hb (hml.trans hl.1.symm) hown w_6 w_7 w_8 w_9 (Nat.le_of_ble_eq_true rfl) (Nat.le_of_ble_eq_true rfl) (Nat.le_of_ble_eq_true rfl) (Nat.le_of_ble_eq_true rfl) dX2_read_127 ?_
  refine lv_topi (fun x_22 ex_22 => ?_)
  have hE := hE.trans (spLet_eq ex_22)
  refine va_put (D := (dC, dI)) (ci := 2) (v := .int x_22) (ty := .int) (C := RX2) (T := TX2) (N := 4) hx hb hts i_X2 tyX2 tyX2_ok nmX2 hown hK hP hD hS 0 rfl rfl 3 (by decide) w_10 (fun _ h9 => h9) rfl (by decide +kernel) (rfl) (rfl) (Nat.le_of_ble_eq_true rfl) dX2_read_130 (fun H locs hP hD hS => ?_)
  have hP : va_P (dC, dI) vwCl [(qu, .inr (2, [.int x_6, .int r_20, .int x_19, .int x_22])), (qb, .inr (0, [.int bln, .int ban, .int bsl, .int bhe, .int bte, .int bma, .int bta]))] H := hP
  have hD : va_D A [(qu, .inr (2, [.int x_6, .int r_20, .int x_19, .int x_22])), (qb, .inr (0, [.int bln, .int ban, .int bsl, .int bhe, .int bte, .int bma, .int bta]))] := hD
  exact W.vret hx hb hr (fun t h9 hW => ⟨⟨((x_6, r_20, x_19, x_22) : Int32 × Int32 × Int32 × Int32), rfl, hE.symm, by rw [h9]; exact hP, hD⟩, hS.F h9⟩) hS.2.2 dX2_read_133
def x_X4_motionsOf (sfm : Nat → Int32) (ord : Int32) : Int32 :=
  if ord < 0 then (0 : Int32) else (if (26 : Int32) ≤ ord then (0 : Int32) else ((sfm ((ord).toNatClampNeg))))
set_option maxHeartbeats 1000000 in
set_option maxRecDepth 100000 in
theorem c_X4_motionsOf (l : Launch) (dC : Nat → ClassId) (dI : Nat → Nat → Nat) (cyI : ClassId) (qs : Nat) (qsm : Nat) (qst : Nat) (sc : Int32) (se : Int32) (sk : Int32) (sn : Int32) (sfm : Nat → Int32) (sft : Nat → Int32) (ord : Int32) : Met l yX4_motionsOf wqX4_motionsOf ({ frames := 0, cells := 0, slots := 0, locals := 0 } : Room) (va_Pc [.ref qs, .int ord] (pB (dC, dI) [(qs, .inr (4, [.ref qsm, .ref qst, .int sc, .int se, .int sk, .int sn])), (qsm, .inl (cyI, 26, .inl sfm)), (qst, .inl (cyI, 26, .inl sft))] [(cyI, .int)] eX)) (vp_Si (fun r => r = (x_X4_motionsOf sfm ord))) 0 0 aF := by
  refine Met.ofW (cc := cX4_motionsOf) (maxL := 2) (ret := (some .int)) (by decide) rfl ?_
  intro p e s m args below meth c s₁ B hml hv
  obtain ⟨rfl, hP, hK, he⟩ := hv
  have hx := B.exec
  have hb := B.bytes
  have hr := B.returns
  have hts := atoms_spec (ws := wqX4_motionsOf) B.pre
  have hown : s.vm.findClass RX4 = some m.cls := findClass_of_methodNamed B.named
  have hlocks := B.notSynchronized
  have w_0 := hts (Cond.fieldLink RX4 11 "CraneLimiter$Script" "motions" "[I") (List.mem_cons_of_mem _ b_84)
  have i_X4 : ∀ w ∈ u_ws RX4 TX4 6, w ∈ wqX4_motionsOf := fun w h => List.mem_cons_of_mem _ (bX4 w h)
  have hS : va_S aF s.heap s.heap [] := va_S.rf
  have hP : va_P (dC, dI) vwCl [(qs, .inr (4, [.ref qsm, .ref qst, .int sc, .int se, .int sk, .int sn])), (qsm, .inl (cyI, 26, .inl sfm)), (qst, .inl (cyI, 26, .inl sft))] s.heap := hP
  have hl := lv_entry ([.ref qs, .int ord] : List Value) (n := 2) (Nat.le_of_ble_eq_true rfl)
  rw [lg_entry_eq]
  generalize (lg_sl ([.ref qs, .int ord] : List Value) ++ List.replicate (2 - (lg_sl ([.ref qs, .int ord] : List Value)).length) Slot.unset).toArray = ls at hl ⊢
  have hl : lv_has ls 2 [(0, .ref qs), (1, .int ord)] := hl
  have hE : x_X4_motionsOf sfm ord = x_X4_motionsOf sfm ord := rfl
  refine lv_iload_n hx hb dX4_motionsOf_0 rfl (lv_at hl 1 rfl) ?_
  refine lv_if_lt (tgt := 19) hx hb dX4_motionsOf_1 (by decide) (fun c_1 => ?_) (fun c_1 => ?_)
  ·
    have hE := hE.trans (if_pos c_1)
    refine lv_iconst (v := 0) hx hb dX4_motionsOf_19 (by decide) ?_
    exact W.iret (v := (0 : Int32)) hx hb hr (fun t ht hW => ⟨_, rfl, hE.symm, ht⟩) (fun q h => by cases h) dX4_motionsOf_20
  ·
    have hE := hE.trans (if_neg c_1)
    refine lv_iload_n hx hb dX4_motionsOf_4 rfl (lv_at hl 1 rfl) ?_
    refine lv_bipush (v := 26) hx hb dX4_motionsOf_5 (by decide) ?_
    refine lv_icmp_ge (tgt := 19) hx hb dX4_motionsOf_7 (by decide) (fun c_2 => ?_) (fun c_2 => ?_)
    ·
      have hE := hE.trans (if_pos c_2)
      refine lv_iconst (v := 0) hx hb dX4_motionsOf_19 (by decide) ?_
      exact W.iret (v := (0 : Int32)) hx hb hr (fun t ht hW => ⟨_, rfl, hE.symm, ht⟩) (fun q h => by cases h) dX4_motionsOf_20
    ·
      have hE := hE.trans (if_neg c_2)
      have hk := xinG (N := 26) (n := 26) (by decide) (by assumption) (by assumption)
      have hk2 := hk.2
      refine lv_aload_n hx hb dX4_motionsOf_10 rfl (lv_at hl 0 rfl) ?_
      refine va_get (D := (dC, dI)) (ci := 4) (v := .ref qsm) (C := RX4) (T := TX4) (N := 6) hx hb hts i_X4 hown hK hP 0 rfl rfl 0 (by decide) w_0 (fun _ h9 => h9) rfl dX4_motionsOf_11 ?_
      refine lv_iload_n hx hb dX4_motionsOf_14 rfl (lv_at hl 1 rfl) ?_
      refine ra_ld hx hb hK hP 1 0 rfl rfl (j := (ord).toNatClampNeg) hk.1 (by omega) (by omega) dX4_motionsOf_15 ?_
      refine lv_goto (tgt := 20) hx hb dX4_motionsOf_16 (by decide) ?_
      exact W.iret (v := (sfm ((ord).toNatClampNeg))) hx hb hr (fun t ht hW => ⟨_, rfl, hE.symm, ht⟩) (fun q h => by cases h) dX4_motionsOf_20
def x_X4_ticksOf (sft : Nat → Int32) (ord : Int32) : Int32 :=
  if ord < 0 then (0 : Int32) else (if (26 : Int32) ≤ ord then (0 : Int32) else ((sft ((ord).toNatClampNeg))))
set_option maxHeartbeats 1000000 in
set_option maxRecDepth 100000 in
theorem c_X4_ticksOf (l : Launch) (dC : Nat → ClassId) (dI : Nat → Nat → Nat) (cyI : ClassId) (qs : Nat) (qsm : Nat) (qst : Nat) (sc : Int32) (se : Int32) (sk : Int32) (sn : Int32) (sfm : Nat → Int32) (sft : Nat → Int32) (ord : Int32) : Met l yX4_ticksOf wqX4_ticksOf ({ frames := 0, cells := 0, slots := 0, locals := 0 } : Room) (va_Pc [.ref qs, .int ord] (pB (dC, dI) [(qs, .inr (4, [.ref qsm, .ref qst, .int sc, .int se, .int sk, .int sn])), (qsm, .inl (cyI, 26, .inl sfm)), (qst, .inl (cyI, 26, .inl sft))] [(cyI, .int)] eX)) (vp_Si (fun r => r = (x_X4_ticksOf sft ord))) 0 0 aF := by
  refine Met.ofW (cc := cX4_ticksOf) (maxL := 2) (ret := (some .int)) (by decide) rfl ?_
  intro p e s m args below meth c s₁ B hml hv
  obtain ⟨rfl, hP, hK, he⟩ := hv
  have hx := B.exec
  have hb := B.bytes
  have hr := B.returns
  have hts := atoms_spec (ws := wqX4_ticksOf) B.pre
  have hown : s.vm.findClass RX4 = some m.cls := findClass_of_methodNamed B.named
  have hlocks := B.notSynchronized
  have w_0 := hts (Cond.fieldLink RX4 15 "CraneLimiter$Script" "ticks" "[I") (List.mem_cons_of_mem _ b_85)
  have i_X4 : ∀ w ∈ u_ws RX4 TX4 6, w ∈ wqX4_ticksOf := fun w h => List.mem_cons_of_mem _ (bX4 w h)
  have hS : va_S aF s.heap s.heap [] := va_S.rf
  have hP : va_P (dC, dI) vwCl [(qs, .inr (4, [.ref qsm, .ref qst, .int sc, .int se, .int sk, .int sn])), (qsm, .inl (cyI, 26, .inl sfm)), (qst, .inl (cyI, 26, .inl sft))] s.heap := hP
  have hl := lv_entry ([.ref qs, .int ord] : List Value) (n := 2) (Nat.le_of_ble_eq_true rfl)
  rw [lg_entry_eq]
  generalize (lg_sl ([.ref qs, .int ord] : List Value) ++ List.replicate (2 - (lg_sl ([.ref qs, .int ord] : List Value)).length) Slot.unset).toArray = ls at hl ⊢
  have hl : lv_has ls 2 [(0, .ref qs), (1, .int ord)] := hl
  have hE : x_X4_ticksOf sft ord = x_X4_ticksOf sft ord := rfl
  refine lv_iload_n hx hb dX4_ticksOf_0 rfl (lv_at hl 1 rfl) ?_
  refine lv_if_lt (tgt := 19) hx hb dX4_ticksOf_1 (by decide) (fun c_1 => ?_) (fun c_1 => ?_)
  ·
    have hE := hE.trans (if_pos c_1)
    refine lv_iconst (v := 0) hx hb dX4_ticksOf_19 (by decide) ?_
    exact W.iret (v := (0 : Int32)) hx hb hr (fun t ht hW => ⟨_, rfl, hE.symm, ht⟩) (fun q h => by cases h) dX4_ticksOf_20
  ·
    have hE := hE.trans (if_neg c_1)
    refine lv_iload_n hx hb dX4_ticksOf_4 rfl (lv_at hl 1 rfl) ?_
    refine lv_bipush (v := 26) hx hb dX4_ticksOf_5 (by decide) ?_
    refine lv_icmp_ge (tgt := 19) hx hb dX4_ticksOf_7 (by decide) (fun c_2 => ?_) (fun c_2 => ?_)
    ·
      have hE := hE.trans (if_pos c_2)
      refine lv_iconst (v := 0) hx hb dX4_ticksOf_19 (by decide) ?_
      exact W.iret (v := (0 : Int32)) hx hb hr (fun t ht hW => ⟨_, rfl, hE.symm, ht⟩) (fun q h => by cases h) dX4_ticksOf_20
    ·
      have hE := hE.trans (if_neg c_2)
      have hk := xinG (N := 26) (n := 26) (by decide) (by assumption) (by assumption)
      have hk2 := hk.2
      refine lv_aload_n hx hb dX4_ticksOf_10 rfl (lv_at hl 0 rfl) ?_
      refine va_get (D := (dC, dI)) (ci := 4) (v := .ref qst) (C := RX4) (T := TX4) (N := 6) hx hb hts i_X4 hown hK hP 0 rfl rfl 1 (by decide) w_0 (fun _ h9 => h9) rfl dX4_ticksOf_11 ?_
      refine lv_iload_n hx hb dX4_ticksOf_14 rfl (lv_at hl 1 rfl) ?_
      refine ra_ld hx hb hK hP 2 0 rfl rfl (j := (ord).toNatClampNeg) hk.1 (by omega) (by omega) dX4_ticksOf_15 ?_
      refine lv_goto (tgt := 20) hx hb dX4_ticksOf_16 (by decide) ?_
      exact W.iret (v := (sft ((ord).toNatClampNeg))) hx hb hr (fun t ht hW => ⟨_, rfl, hE.symm, ht⟩) (fun q h => by cases h) dX4_ticksOf_20
def x_X4_keepOrder (sc : Int32) (se : Int32) (sk : Int32) (sn : Int32) (sfm : Nat → Int32) (sft : Nat → Int32) : Int32 × Int32 × Int32 × Int32 × Int32 × (Nat → Int32) × (Nat → Int32) :=
  if sc < 0 then (((0 : Int32), sc, se, sk, sn, sfm, sft)) else (if sc < (26 : Int32) then (spLet (upd sfm (sc.toNatClampNeg) sk) (fun f_3 => spLet (upd sft (sc.toNatClampNeg) sn) (fun f_4 => ((1 : Int32), (nI (sc.toNatClampNeg + 1)), (0 : Int32), sk, sn, f_3, f_4)))) else (((0 : Int32), sc, se, sk, sn, sfm, sft)))
set_option maxHeartbeats 1000000 in
set_option maxRecDepth 100000 in
theorem c_X4_keepOrder (l : Launch) (dC : Nat → ClassId) (dI : Nat → Nat → Nat) (cyI : ClassId) (sz : Nat) (qs : Nat) (qsm : Nat) (qst : Nat) (sc : Int32) (se : Int32) (sk : Int32) (sn : Int32) (sfm : Nat → Int32) (sft : Nat → Int32) : Met l yX4_keepOrder wqX4_keepOrder ({ frames := 0, cells := 0, slots := 0, locals := 0 } : Room) (va_Pc [.ref qs] (pC (dC, dI) [(qs, .inr (4, [.ref qsm, .ref qst, .int sc, .int se, .int sk, .int sn])), (qsm, .inl (cyI, 26, .inl sfm)), (qst, .inl (cyI, 26, .inl sft))] [(cyI, .int)] eX sz)) (va_Qi (fun (r : Int32) (u : Int32 × Int32 × Int32 × Int32 × Int32 × (Nat → Int32) × (Nat → Int32)) => u = (x_X4_keepOrder sc se sk sn sfm sft) ∧ r = u.1 ∧ (r = 0 ∨ r = 1)) (fun (u : Int32 × Int32 × Int32 × Int32 × Int32 × (Nat → Int32) × (Nat → Int32)) t => va_P (dC, dI) vwCl [(qs, .inr (4, [.ref qsm, .ref qst, .int (u.2.1), .int (u.2.2.1), .int (u.2.2.2.1), .int (u.2.2.2.2.1)])), (qsm, .inl (cyI, 26, .inl (u.2.2.2.2.2.1))), (qst, .inl (cyI, 26, .inl (u.2.2.2.2.2.2)))] t.heap ∧ va_D (va_A [(qs, .inr (4, [.ref qsm, .ref qst, .int sc, .int se, .int sk, .int sn])), (qsm, .inl (cyI, 26, .inl sfm)), (qst, .inl (cyI, 26, .inl sft))] sz) [(qs, .inr (4, [.ref qsm, .ref qst, .int (u.2.1), .int (u.2.2.1), .int (u.2.2.2.1), .int (u.2.2.2.2.1)])), (qsm, .inl (cyI, 26, .inl (u.2.2.2.2.2.1))), (qst, .inl (cyI, 26, .inl (u.2.2.2.2.2.2)))]) (va_A [(qs, .inr (4, [.ref qsm, .ref qst, .int sc, .int se, .int sk, .int sn])), (qsm, .inl (cyI, 26, .inl sfm)), (qst, .inl (cyI, 26, .inl sft))] sz)) 0 0 (va_A [(qs, .inr (4, [.ref qsm, .ref qst, .int sc, .int se, .int sk, .int sn])), (qsm, .inl (cyI, 26, .inl sfm)), (qst, .inl (cyI, 26, .inl sft))] sz) := by
  refine Met.ofW (cc := cX4_keepOrder) (maxL := 1) (ret := (some .boolean)) (by decide) rfl ?_
  intro p e s m args below meth c s₁ B hml hv
  obtain ⟨rfl, hsz, hP, hK, hD0, he⟩ := hv
  have hx := B.exec
  have hb := B.bytes
  have hr := B.returns
  have hts := atoms_spec (ws := wqX4_keepOrder) B.pre
  have hown : s.vm.findClass RX4 = some m.cls := findClass_of_methodNamed B.named
  have hlocks := B.notSynchronized
  have w_0 := hts (Cond.fieldLink RX4 18 "CraneLimiter$Script" "count" "I") (List.mem_cons_of_mem _ b_939)
  have w_1 := hts (Cond.fieldLink RX4 11 "CraneLimiter$Script" "motions" "[I") (List.mem_cons_of_mem _ b_84)
  have w_2 := hts (Cond.fieldLink RX4 42 "CraneLimiter$Script" "mask" "I") (List.mem_cons_of_mem _ b_949)
  have w_3 := hts (Cond.fieldLink RX4 15 "CraneLimiter$Script" "ticks" "[I") (List.mem_cons_of_mem _ b_85)
  have w_4 := hts (Cond.fieldLink RX4 45 "CraneLimiter$Script" "number" "I") (List.mem_cons_of_mem _ b_950)
  have w_5 := hts (Cond.fieldLink RX4 22 "CraneLimiter$Script" "expected" "I") (List.mem_cons_of_mem _ b_940)
  have i_X4 : ∀ w ∈ u_ws RX4 TX4 6, w ∈ wqX4_keepOrder := fun w h => List.mem_cons_of_mem _ (bX4 w h)
  subst hsz
  have hD := hD0.self (sz := s.heap.size)
  generalize hAe : va_A [(qs, .inr (4, [.ref qsm, .ref qst, .int sc, .int se, .int sk, .int sn])), (qsm, .inl (cyI, 26, .inl sfm)), (qst, .inl (cyI, 26, .inl sft))] s.heap.size = A at hD he ⊢
  have hA : ∀ q : Nat, s.heap.size ≤ q → A q := fun q h => by rw [← hAe]; exact Or.inr h
  have hS : va_S A s.heap s.heap [] := va_S.rf
  have hP : va_P (dC, dI) vwCl [(qs, .inr (4, [.ref qsm, .ref qst, .int sc, .int se, .int sk, .int sn])), (qsm, .inl (cyI, 26, .inl sfm)), (qst, .inl (cyI, 26, .inl sft))] s.heap := hP
  have hl := lv_entry ([.ref qs] : List Value) (n := 1) (Nat.le_of_ble_eq_true rfl)
  rw [lg_entry_eq]
  generalize (lg_sl ([.ref qs] : List Value) ++ List.replicate (1 - (lg_sl ([.ref qs] : List Value)).length) Slot.unset).toArray = ls at hl ⊢
  have hl : lv_has ls 1 [(0, .ref qs)] := hl
  have hE : x_X4_keepOrder sc se sk sn sfm sft = x_X4_keepOrder sc se sk sn sfm sft := rfl
  refine lv_aload_n hx hb dX4_keepOrder_0 rfl (lv_at hl 0 rfl) ?_
  refine va_get (D := (dC, dI)) (ci := 4) (v := .int sc) (C := RX4) (T := TX4) (N := 6) hx hb hts i_X4 hown hK hP 0 rfl rfl 2 (by decide) w_0 (fun _ h9 => h9) rfl dX4_keepOrder_1 ?_
  refine lv_if_lt (tgt := 16) hx hb dX4_keepOrder_4 (by decide) (fun c_1 => ?_) (fun c_1 => ?_)
  ·
    have hE := hE.trans (if_pos c_1)
    refine lv_iconst (v := 0) hx hb dX4_keepOrder_16 (by decide) ?_
    exact W.zret (v := (0 : Int32)) hx hb hr rfl (fun t h9 hW => ⟨⟨(0 : Int32), (((0 : Int32), sc, se, sk, sn, sfm, sft) : Int32 × Int32 × Int32 × Int32 × Int32 × (Nat → Int32) × (Nat → Int32)), rfl, ⟨hE.symm, rfl, (by decide)⟩, by rw [h9]; exact hP, hD⟩, hS.F h9⟩) hS.2.2 dX4_keepOrder_17
  ·
    have hE := hE.trans (if_neg c_1)
    refine lv_aload_n hx hb dX4_keepOrder_7 rfl (lv_at hl 0 rfl) ?_
    refine va_get (D := (dC, dI)) (ci := 4) (v := .int sc) (C := RX4) (T := TX4) (N := 6) hx hb hts i_X4 hown hK hP 0 rfl rfl 2 (by decide) w_0 (fun _ h9 => h9) rfl dX4_keepOrder_8 ?_
    refine lv_bipush (v := 26) hx hb dX4_keepOrder_11 (by decide) ?_
    refine lv_icmp_lt (tgt := 18) hx hb dX4_keepOrder_13 (by decide) (fun c_2 => ?_) (fun c_2 => ?_)
    ·
      have hE := hE.trans (if_pos c_2)
      have hk := xin (N := 26) (n := 26) (by decide) (by assumption) (by assumption)
      have hk2 := hk.2
      refine lv_aload_n hx hb dX4_keepOrder_18 rfl (lv_at hl 0 rfl) ?_
      refine va_get (D := (dC, dI)) (ci := 4) (v := .ref qsm) (C := RX4) (T := TX4) (N := 6) hx hb hts i_X4 hown hK hP 0 rfl rfl 0 (by decide) w_1 (fun _ h9 => h9) rfl dX4_keepOrder_19 ?_
      refine lv_aload_n hx hb dX4_keepOrder_22 rfl (lv_at hl 0 rfl) ?_
      refine va_get (D := (dC, dI)) (ci := 4) (v := .int sc) (C := RX4) (T := TX4) (N := 6) hx hb hts i_X4 hown hK hP 0 rfl rfl 2 (by decide) w_0 (fun _ h9 => h9) rfl dX4_keepOrder_23 ?_
      refine lv_aload_n hx hb dX4_keepOrder_26 rfl (lv_at hl 0 rfl) ?_
      refine va_get (D := (dC, dI)) (ci := 4) (v := .int sk) (C := RX4) (T := TX4) (N := 6) hx hb hts i_X4 hown hK hP 0 rfl rfl 4 (by decide) w_2 (fun _ h9 => h9) rfl dX4_keepOrder_27 ?_
      refine ra_st hx hb hK hP hD hS 1 0 rfl rfl (j := sc.toNatClampNeg) hk.1 (by omega) (by omega) dX4_keepOrder_30 (fun H locs hP hD hS => ?_)
      have hP : va_P (dC, dI) vwCl [(qs, .inr (4, [.ref qsm, .ref qst, .int sc, .int se, .int sk, .int sn])), (qsm, .inl (cyI, 26, .inl (upd sfm (sc.toNatClampNeg) sk))), (qst, .inl (cyI, 26, .inl sft))] H := hP
      have hD : va_D A [(qs, .inr (4, [.ref qsm, .ref qst, .int sc, .int se, .int sk, .int sn])), (qsm, .inl (cyI, 26, .inl (upd sfm (sc.toNatClampNeg) sk))), (qst, .inl (cyI, 26, .inl sft))] := hD
      obtain ⟨f_3, ef_3⟩ : ∃ y : Nat → Int32, y = upd sfm (sc.toNatClampNeg) sk := ⟨_, rfl⟩
      rw [← ef_3] at hP hD
      have hE := hE.trans (spLet_eq ef_3)
      refine lv_aload_n hx hb dX4_keepOrder_31 rfl (lv_at hl 0 rfl) ?_
      refine va_get (D := (dC, dI)) (ci := 4) (v := .ref qst) (C := RX4) (T := TX4) (N := 6) hx hb hts i_X4 hown hK hP 0 rfl rfl 1 (by decide) w_3 (fun _ h9 => h9) rfl dX4_keepOrder_32 ?_
      refine lv_aload_n hx hb dX4_keepOrder_35 rfl (lv_at hl 0 rfl) ?_
      refine va_get (D := (dC, dI)) (ci := 4) (v := .int sc) (C := RX4) (T := TX4) (N := 6) hx hb hts i_X4 hown hK hP 0 rfl rfl 2 (by decide) w_0 (fun _ h9 => h9) rfl dX4_keepOrder_36 ?_
      refine lv_aload_n hx hb dX4_keepOrder_39 rfl (lv_at hl 0 rfl) ?_
      refine va_get (D := (dC, dI)) (ci := 4) (v := .int sn) (C := RX4) (T := TX4) (N := 6) hx hb hts i_X4 hown hK hP 0 rfl rfl 5 (by decide) w_4 (fun _ h9 => h9) rfl dX4_keepOrder_40 ?_
      refine ra_st hx hb hK hP hD hS 2 0 rfl rfl (j := sc.toNatClampNeg) hk.1 (by omega) (by omega) dX4_keepOrder_43 (fun H locs hP hD hS => ?_)
      have hP : va_P (dC, dI) vwCl [(qs, .inr (4, [.ref qsm, .ref qst, .int sc, .int se, .int sk, .int sn])), (qsm, .inl (cyI, 26, .inl f_3)), (qst, .inl (cyI, 26, .inl (upd sft (sc.toNatClampNeg) sn)))] H := hP
      have hD : va_D A [(qs, .inr (4, [.ref qsm, .ref qst, .int sc, .int se, .int sk, .int sn])), (qsm, .inl (cyI, 26, .inl f_3)), (qst, .inl (cyI, 26, .inl (upd sft (sc.toNatClampNeg) sn)))] := hD
      obtain ⟨f_4, ef_4⟩ : ∃ y : Nat → Int32, y = upd sft (sc.toNatClampNeg) sn := ⟨_, rfl⟩
      rw [← ef_4] at hP hD
      have hE := hE.trans (spLet_eq ef_4)
      refine lv_aload_n hx hb dX4_keepOrder_44 rfl (lv_at hl 0 rfl) ?_
      refine lv_dup hx hb dX4_keepOrder_45 rfl ?_
      refine va_get (D := (dC, dI)) (ci := 4) (v := .int sc) (C := RX4) (T := TX4) (N := 6) hx hb hts i_X4 hown hK hP 0 rfl rfl 2 (by decide) w_0 (fun _ h9 => h9) rfl dX4_keepOrder_46 ?_
      refine lv_iconst (v := 1) hx hb dX4_keepOrder_49 (by decide) ?_
      refine lv_iadd hx hb dX4_keepOrder_50 ?_
      refine lv_topi (fun y_5 ey_5 => ?_)
      obtain rfl : y_5 = nI (sc.toNatClampNeg + 1) := ey_5.trans (nadd hk.1 (rfl : (1 : Int32) = nI 1))
      refine va_put (D := (dC, dI)) (ci := 4) (v := .int (nI (sc.toNatClampNeg + 1))) (ty := .int) (C := RX4) (T := TX4) (N := 6) hx hb hts i_X4 tyX4 tyX4_ok nmX4 hown hK hP hD hS 0 rfl rfl 2 (by decide) w_0 (fun _ h9 => h9) rfl (by decide +kernel) (rfl) (rfl) (Nat.le_of_ble_eq_true rfl) dX4_keepOrder_51 (fun H locs hP hD hS => ?_)
      have hP : va_P (dC, dI) vwCl [(qs, .inr (4, [.ref qsm, .ref qst, .int (nI (sc.toNatClampNeg + 1)), .int se, .int sk, .int sn])), (qsm, .inl (cyI, 26, .inl f_3)), (qst, .inl (cyI, 26, .inl f_4))] H := hP
      have hD : va_D A [(qs, .inr (4, [.ref qsm, .ref qst, .int (nI (sc.toNatClampNeg + 1)), .int se, .int sk, .int sn])), (qsm, .inl (cyI, 26, .inl f_3)), (qst, .inl (cyI, 26, .inl f_4))] := hD
      refine lv_aload_n hx hb dX4_keepOrder_54 rfl (lv_at hl 0 rfl) ?_
      refine lv_iconst (v := 0) hx hb dX4_keepOrder_55 (by decide) ?_
      refine va_put (D := (dC, dI)) (ci := 4) (v := .int (0 : Int32)) (ty := .int) (C := RX4) (T := TX4) (N := 6) hx hb hts i_X4 tyX4 tyX4_ok nmX4 hown hK hP hD hS 0 rfl rfl 3 (by decide) w_5 (fun _ h9 => h9) rfl (by decide +kernel) (rfl) (rfl) (Nat.le_of_ble_eq_true rfl) dX4_keepOrder_56 (fun H locs hP hD hS => ?_)
      have hP : va_P (dC, dI) vwCl [(qs, .inr (4, [.ref qsm, .ref qst, .int (nI (sc.toNatClampNeg + 1)), .int (0 : Int32), .int sk, .int sn])), (qsm, .inl (cyI, 26, .inl f_3)), (qst, .inl (cyI, 26, .inl f_4))] H := hP
      have hD : va_D A [(qs, .inr (4, [.ref qsm, .ref qst, .int (nI (sc.toNatClampNeg + 1)), .int (0 : Int32), .int sk, .int sn])), (qsm, .inl (cyI, 26, .inl f_3)), (qst, .inl (cyI, 26, .inl f_4))] := hD
      refine lv_iconst (v := 1) hx hb dX4_keepOrder_59 (by decide) ?_
      exact W.zret (v := (1 : Int32)) hx hb hr rfl (fun t h9 hW => ⟨⟨(1 : Int32), (((1 : Int32), (nI (sc.toNatClampNeg + 1)), (0 : Int32), sk, sn, f_3, f_4) : Int32 × Int32 × Int32 × Int32 × Int32 × (Nat → Int32) × (Nat → Int32)), rfl, ⟨hE.symm, rfl, (by decide)⟩, by rw [h9]; exact hP, hD⟩, hS.F h9⟩) hS.2.2 dX4_keepOrder_60
    ·
      have hE := hE.trans (if_neg c_2)
      refine lv_iconst (v := 0) hx hb dX4_keepOrder_16 (by decide) ?_
      exact W.zret (v := (0 : Int32)) hx hb hr rfl (fun t h9 hW => ⟨⟨(0 : Int32), (((0 : Int32), sc, se, sk, sn, sfm, sft) : Int32 × Int32 × Int32 × Int32 × Int32 × (Nat → Int32) × (Nat → Int32)), rfl, ⟨hE.symm, rfl, (by decide)⟩, by rw [h9]; exact hP, hD⟩, hS.F h9⟩) hS.2.2 dX4_keepOrder_17
def x_X4_acceptsLetter_j113 (w0_2_96 : Int32) (w0_4_96 : Int32) (w1_a_96 : Nat → Int32) (w2_a_96 : Nat → Int32) (t0_113 : Int32) : Int32 × Int32 × Int32 × Int32 × Int32 × (Nat → Int32) × (Nat → Int32) :=
  ((1 : Int32), w0_2_96, t0_113, w0_4_96, (0 : Int32), w1_a_96, w2_a_96)
def x_X4_acceptsLetter_j96 (ch : Int32) (w0_2_96 : Int32) (w0_3_96 : Int32) (w0_4_96 : Int32) (w0_5_96 : Int32) (w1_a_96 : Nat → Int32) (w2_a_96 : Nat → Int32) : Int32 × Int32 × Int32 × Int32 × Int32 × (Nat → Int32) × (Nat → Int32) :=
  if ch = (119 : Int32) then (x_X4_acceptsLetter_j113 w0_2_96 w0_4_96 w1_a_96 w2_a_96 (2 : Int32)) else (x_X4_acceptsLetter_j113 w0_2_96 w0_4_96 w1_a_96 w2_a_96 (1 : Int32))
def x_X4_acceptsLetter (sc : Int32) (se : Int32) (sk : Int32) (sn : Int32) (sfm : Nat → Int32) (sft : Nat → Int32) (ch : Int32) : Int32 × Int32 × Int32 × Int32 × Int32 × (Nat → Int32) × (Nat → Int32) :=
  if ch = 98 then (x_X4_acceptsLetter_j96 ch sc se (4 : Int32) sn sfm sft) else (if ch = 101 then (x_X4_acceptsLetter_j96 ch sc se (16 : Int32) sn sfm sft) else (if ch = 104 then (x_X4_acceptsLetter_j96 ch sc se (1 : Int32) sn sfm sft) else (if ch = 115 then (x_X4_acceptsLetter_j96 ch sc se (64 : Int32) sn sfm sft) else (if ch = 119 then (x_X4_acceptsLetter_j96 ch sc se (0 : Int32) sn sfm sft) else (((0 : Int32), sc, se, sk, sn, sfm, sft))))))
set_option maxHeartbeats 1000000 in
set_option maxRecDepth 100000 in
theorem c_X4_acceptsLetter (l : Launch) (dC : Nat → ClassId) (dI : Nat → Nat → Nat) (cyI : ClassId) (sz : Nat) (qs : Nat) (qsm : Nat) (qst : Nat) (sc : Int32) (se : Int32) (sk : Int32) (sn : Int32) (sfm : Nat → Int32) (sft : Nat → Int32) (ch : Int32) : Met l yX4_acceptsLetter wqX4_acceptsLetter ({ frames := 0, cells := 0, slots := 0, locals := 0 } : Room) (va_Pc [.ref qs, .int ch] (pC (dC, dI) [(qs, .inr (4, [.ref qsm, .ref qst, .int sc, .int se, .int sk, .int sn])), (qsm, .inl (cyI, 26, .inl sfm)), (qst, .inl (cyI, 26, .inl sft))] [(cyI, .int)] eX sz)) (va_Qi (fun (r : Int32) (u : Int32 × Int32 × Int32 × Int32 × Int32 × (Nat → Int32) × (Nat → Int32)) => u = (x_X4_acceptsLetter sc se sk sn sfm sft ch) ∧ r = u.1 ∧ (r = 0 ∨ r = 1)) (fun (u : Int32 × Int32 × Int32 × Int32 × Int32 × (Nat → Int32) × (Nat → Int32)) t => va_P (dC, dI) vwCl [(qs, .inr (4, [.ref qsm, .ref qst, .int (u.2.1), .int (u.2.2.1), .int (u.2.2.2.1), .int (u.2.2.2.2.1)])), (qsm, .inl (cyI, 26, .inl (u.2.2.2.2.2.1))), (qst, .inl (cyI, 26, .inl (u.2.2.2.2.2.2)))] t.heap ∧ va_D (va_A [(qs, .inr (4, [.ref qsm, .ref qst, .int sc, .int se, .int sk, .int sn])), (qsm, .inl (cyI, 26, .inl sfm)), (qst, .inl (cyI, 26, .inl sft))] sz) [(qs, .inr (4, [.ref qsm, .ref qst, .int (u.2.1), .int (u.2.2.1), .int (u.2.2.2.1), .int (u.2.2.2.2.1)])), (qsm, .inl (cyI, 26, .inl (u.2.2.2.2.2.1))), (qst, .inl (cyI, 26, .inl (u.2.2.2.2.2.2)))]) (va_A [(qs, .inr (4, [.ref qsm, .ref qst, .int sc, .int se, .int sk, .int sn])), (qsm, .inl (cyI, 26, .inl sfm)), (qst, .inl (cyI, 26, .inl sft))] sz)) 0 0 (va_A [(qs, .inr (4, [.ref qsm, .ref qst, .int sc, .int se, .int sk, .int sn])), (qsm, .inl (cyI, 26, .inl sfm)), (qst, .inl (cyI, 26, .inl sft))] sz) := by
  refine Met.ofW (cc := cX4_acceptsLetter) (maxL := 2) (ret := (some .boolean)) (by decide) rfl ?_
  intro p e s m args below meth c s₁ B hml hv
  obtain ⟨rfl, hsz, hP, hK, hD0, he⟩ := hv
  have hx := B.exec
  have hb := B.bytes
  have hr := B.returns
  have hts := atoms_spec (ws := wqX4_acceptsLetter) B.pre
  have hown : s.vm.findClass RX4 = some m.cls := findClass_of_methodNamed B.named
  have hlocks := B.notSynchronized
  have w_0 := hts (Cond.fieldLink RX4 45 "CraneLimiter$Script" "number" "I") (List.mem_cons_of_mem _ b_950)
  have w_1 := hts (Cond.fieldLink RX4 22 "CraneLimiter$Script" "expected" "I") (List.mem_cons_of_mem _ b_940)
  have w_2 := hts (Cond.fieldLink RX4 42 "CraneLimiter$Script" "mask" "I") (List.mem_cons_of_mem _ b_949)
  have i_X4 : ∀ w ∈ u_ws RX4 TX4 6, w ∈ wqX4_acceptsLetter := fun w h => List.mem_cons_of_mem _ (bX4 w h)
  subst hsz
  have hD := hD0.self (sz := s.heap.size)
  generalize hAe : va_A [(qs, .inr (4, [.ref qsm, .ref qst, .int sc, .int se, .int sk, .int sn])), (qsm, .inl (cyI, 26, .inl sfm)), (qst, .inl (cyI, 26, .inl sft))] s.heap.size = A at hD he ⊢
  have hA : ∀ q : Nat, s.heap.size ≤ q → A q := fun q h => by rw [← hAe]; exact Or.inr h
  have hS : va_S A s.heap s.heap [] := va_S.rf
  have hP : va_P (dC, dI) vwCl [(qs, .inr (4, [.ref qsm, .ref qst, .int sc, .int se, .int sk, .int sn])), (qsm, .inl (cyI, 26, .inl sfm)), (qst, .inl (cyI, 26, .inl sft))] s.heap := hP
  have hl := lv_entry ([.ref qs, .int ch] : List Value) (n := 2) (Nat.le_of_ble_eq_true rfl)
  rw [lg_entry_eq]
  generalize (lg_sl ([.ref qs, .int ch] : List Value) ++ List.replicate (2 - (lg_sl ([.ref qs, .int ch] : List Value)).length) Slot.unset).toArray = ls at hl ⊢
  have hl : lv_has ls 2 [(0, .ref qs), (1, .int ch)] := hl
  have hE : x_X4_acceptsLetter sc se sk sn sfm sft ch = x_X4_acceptsLetter sc se sk sn sfm sft ch := rfl
  refine lv_iload_n hx hb dX4_acceptsLetter_0 rfl (lv_at hl 1 rfl) ?_
  have J96 : ∀ (w0_2_96 : Int32) (w0_3_96 : Int32) (w0_4_96 : Int32) (w0_5_96 : Int32) (w1_a_96 : Nat → Int32) (w2_a_96 : Nat → Int32) (H : Heap) (locs : List Loc) (hP : va_P (dC, dI) vwCl [(qs, .inr (4, [.ref qsm, .ref qst, .int w0_2_96, .int w0_3_96, .int w0_4_96, .int w0_5_96])), (qsm, .inl (cyI, 26, .inl w1_a_96)), (qst, .inl (cyI, 26, .inl w2_a_96))] H) (hD : va_D A [(qs, .inr (4, [.ref qsm, .ref qst, .int w0_2_96, .int w0_3_96, .int w0_4_96, .int w0_5_96])), (qsm, .inl (cyI, 26, .inl w1_a_96)), (qst, .inl (cyI, 26, .inl w2_a_96))]) (hS : va_S A s.heap H locs) (ls : Array Slot) (hl : lv_has ls 2 [(0, .ref qs), (1, .int ch)]) (hE : (x_X4_acceptsLetter sc se sk sn sfm sft ch) = x_X4_acceptsLetter_j96 ch w0_2_96 w0_3_96 w0_4_96 w0_5_96 w1_a_96 w2_a_96), W p l e (headSpec wqX4_acceptsLetter ({ frames := 0, cells := 0, slots := 0, locals := 0 } : Room)).room s m ([.ref qs, .int ch] : List Value).toArray below meth c H locs 0 0 (MQ below (va_Qi (fun (r : Int32) (u : Int32 × Int32 × Int32 × Int32 × Int32 × (Nat → Int32) × (Nat → Int32)) => u = (x_X4_acceptsLetter sc se sk sn sfm sft ch) ∧ r = u.1 ∧ (r = 0 ∨ r = 1)) (fun (u : Int32 × Int32 × Int32 × Int32 × Int32 × (Nat → Int32) × (Nat → Int32)) t => va_P (dC, dI) vwCl [(qs, .inr (4, [.ref qsm, .ref qst, .int (u.2.1), .int (u.2.2.1), .int (u.2.2.2.1), .int (u.2.2.2.2.1)])), (qsm, .inl (cyI, 26, .inl (u.2.2.2.2.2.1))), (qst, .inl (cyI, 26, .inl (u.2.2.2.2.2.2)))] t.heap ∧ va_D A [(qs, .inr (4, [.ref qsm, .ref qst, .int (u.2.1), .int (u.2.2.1), .int (u.2.2.2.1), .int (u.2.2.2.2.1)])), (qsm, .inl (cyI, 26, .inl (u.2.2.2.2.2.1))), (qst, .inl (cyI, 26, .inl (u.2.2.2.2.2.2)))]) A) ([.ref qs, .int ch] : List Value).toArray s 0 0 A) (F0 m 96 ls []) := by
    intro w0_2_96 w0_3_96 w0_4_96 w0_5_96 w1_a_96 w2_a_96 H locs hP hD hS ls hl hE
    refine lv_aload_n hx hb dX4_acceptsLetter_96 rfl (lv_at hl 0 rfl) ?_
    refine lv_iconst (v := 0) hx hb dX4_acceptsLetter_97 (by decide) ?_
    refine va_put (D := (dC, dI)) (ci := 4) (v := .int (0 : Int32)) (ty := .int) (C := RX4) (T := TX4) (N := 6) hx hb hts i_X4 tyX4 tyX4_ok nmX4 hown hK hP hD hS 0 rfl rfl 5 (by decide) w_0 (fun _ h9 => h9) rfl (by decide +kernel) (rfl) (rfl) (Nat.le_of_ble_eq_true rfl) dX4_acceptsLetter_98 (fun H locs hP hD hS => ?_)
    have hP : va_P (dC, dI) vwCl [(qs, .inr (4, [.ref qsm, .ref qst, .int w0_2_96, .int w0_3_96, .int w0_4_96, .int (0 : Int32)])), (qsm, .inl (cyI, 26, .inl w1_a_96)), (qst, .inl (cyI, 26, .inl w2_a_96))] H := hP
    have hD : va_D A [(qs, .inr (4, [.ref qsm, .ref qst, .int w0_2_96, .int w0_3_96, .int w0_4_96, .int (0 : Int32)])), (qsm, .inl (cyI, 26, .inl w1_a_96)), (qst, .inl (cyI, 26, .inl w2_a_96))] := hD
    refine lv_aload_n hx hb dX4_acceptsLetter_101 rfl (lv_at hl 0 rfl) ?_
    refine lv_iload_n hx hb dX4_acceptsLetter_102 rfl (lv_at hl 1 rfl) ?_
    refine lv_bipush (v := 119) hx hb dX4_acceptsLetter_103 (by decide) ?_
    have J113 : ∀ (t0_113 : Int32) (ls : Array Slot) (hl : lv_has ls 2 []) (hE : (x_X4_acceptsLetter sc se sk sn sfm sft ch) = x_X4_acceptsLetter_j113 w0_2_96 w0_4_96 w1_a_96 w2_a_96 t0_113), W p l e (headSpec wqX4_acceptsLetter ({ frames := 0, cells := 0, slots := 0, locals := 0 } : Room)).room s m ([.ref qs, .int ch] : List Value).toArray below meth c H locs 0 0 (MQ below (va_Qi (fun (r : Int32) (u : Int32 × Int32 × Int32 × Int32 × Int32 × (Nat → Int32) × (Nat → Int32)) => u = (x_X4_acceptsLetter sc se sk sn sfm sft ch) ∧ r = u.1 ∧ (r = 0 ∨ r = 1)) (fun (u : Int32 × Int32 × Int32 × Int32 × Int32 × (Nat → Int32) × (Nat → Int32)) t => va_P (dC, dI) vwCl [(qs, .inr (4, [.ref qsm, .ref qst, .int (u.2.1), .int (u.2.2.1), .int (u.2.2.2.1), .int (u.2.2.2.2.1)])), (qsm, .inl (cyI, 26, .inl (u.2.2.2.2.2.1))), (qst, .inl (cyI, 26, .inl (u.2.2.2.2.2.2)))] t.heap ∧ va_D A [(qs, .inr (4, [.ref qsm, .ref qst, .int (u.2.1), .int (u.2.2.1), .int (u.2.2.2.1), .int (u.2.2.2.2.1)])), (qsm, .inl (cyI, 26, .inl (u.2.2.2.2.2.1))), (qst, .inl (cyI, 26, .inl (u.2.2.2.2.2.2)))]) A) ([.ref qs, .int ch] : List Value).toArray s 0 0 A) (F0 m 113 ls [.int t0_113, .ref qs]) := by
      intro t0_113 ls hl hE
      refine va_put (D := (dC, dI)) (ci := 4) (v := .int t0_113) (ty := .int) (C := RX4) (T := TX4) (N := 6) hx hb hts i_X4 tyX4 tyX4_ok nmX4 hown hK hP hD hS 0 rfl rfl 3 (by decide) w_1 (fun _ h9 => h9) rfl (by decide +kernel) (rfl) (rfl) (Nat.le_of_ble_eq_true rfl) dX4_acceptsLetter_113 (fun H locs hP hD hS => ?_)
      have hP : va_P (dC, dI) vwCl [(qs, .inr (4, [.ref qsm, .ref qst, .int w0_2_96, .int t0_113, .int w0_4_96, .int (0 : Int32)])), (qsm, .inl (cyI, 26, .inl w1_a_96)), (qst, .inl (cyI, 26, .inl w2_a_96))] H := hP
      have hD : va_D A [(qs, .inr (4, [.ref qsm, .ref qst, .int w0_2_96, .int t0_113, .int w0_4_96, .int (0 : Int32)])), (qsm, .inl (cyI, 26, .inl w1_a_96)), (qst, .inl (cyI, 26, .inl w2_a_96))] := hD
      refine lv_iconst (v := 1) hx hb dX4_acceptsLetter_116 (by decide) ?_
      exact W.zret (v := (1 : Int32)) hx hb hr rfl (fun t h9 hW => ⟨⟨(1 : Int32), (((1 : Int32), w0_2_96, t0_113, w0_4_96, (0 : Int32), w1_a_96, w2_a_96) : Int32 × Int32 × Int32 × Int32 × Int32 × (Nat → Int32) × (Nat → Int32)), rfl, ⟨hE.symm, rfl, (by decide)⟩, by rw [h9]; exact hP, hD⟩, hS.F h9⟩) hS.2.2 dX4_acceptsLetter_117
    refine lv_icmp_ne (tgt := 112) hx hb dX4_acceptsLetter_105 (by decide) (fun c_1 => ?_) (fun c_1 => ?_)
    ·
      have hE := hE.trans (if_neg c_1)
      refine lv_iconst (v := 1) hx hb dX4_acceptsLetter_112 (by decide) ?_
      exact J113 (1 : Int32) ls (lv_sub hl [] rfl) hE
    ·
      have hE := hE.trans (if_pos c_1)
      refine lv_iconst (v := 2) hx hb dX4_acceptsLetter_108 (by decide) ?_
      refine lv_goto (tgt := 113) hx hb dX4_acceptsLetter_109 (by decide) ?_
      exact J113 (2 : Int32) ls (lv_sub hl [] rfl) hE
  by_cases c_2 : ch = 98
  ·
    have hE := hE.trans (if_pos c_2)
    refine lv_lookup (tgt := 60) (off := 59) hx hb dX4_acceptsLetter_1 (by decide) (by rw [c_2]; decide) (by decide) ?_
    refine lv_aload_n hx hb dX4_acceptsLetter_60 rfl (lv_at hl 0 rfl) ?_
    refine lv_iconst (v := 4) hx hb dX4_acceptsLetter_61 (by decide) ?_
    refine va_put (D := (dC, dI)) (ci := 4) (v := .int (4 : Int32)) (ty := .int) (C := RX4) (T := TX4) (N := 6) hx hb hts i_X4 tyX4 tyX4_ok nmX4 hown hK hP hD hS 0 rfl rfl 4 (by decide) w_2 (fun _ h9 => h9) rfl (by decide +kernel) (rfl) (rfl) (Nat.le_of_ble_eq_true rfl) dX4_acceptsLetter_62 (fun H locs hP hD hS => ?_)
    have hP : va_P (dC, dI) vwCl [(qs, .inr (4, [.ref qsm, .ref qst, .int sc, .int se, .int (4 : Int32), .int sn])), (qsm, .inl (cyI, 26, .inl sfm)), (qst, .inl (cyI, 26, .inl sft))] H := hP
    have hD : va_D A [(qs, .inr (4, [.ref qsm, .ref qst, .int sc, .int se, .int (4 : Int32), .int sn])), (qsm, .inl (cyI, 26, .inl sfm)), (qst, .inl (cyI, 26, .inl sft))] := hD
    refine lv_goto (tgt := 96) hx hb dX4_acceptsLetter_65 (by decide) ?_
    exact J96 sc se (4 : Int32) sn sfm sft _ _ hP hD hS ls (lv_sub hl [0, 1] rfl) hE
  ·
    have hE := hE.trans (if_neg c_2)
    by_cases c_3 : ch = 101
    ·
      have hE := hE.trans (if_pos c_3)
      refine lv_lookup (tgt := 68) (off := 67) hx hb dX4_acceptsLetter_1 (by decide) (by rw [c_3]; decide) (by decide) ?_
      refine lv_aload_n hx hb dX4_acceptsLetter_68 rfl (lv_at hl 0 rfl) ?_
      refine lv_bipush (v := 16) hx hb dX4_acceptsLetter_69 (by decide) ?_
      refine va_put (D := (dC, dI)) (ci := 4) (v := .int (16 : Int32)) (ty := .int) (C := RX4) (T := TX4) (N := 6) hx hb hts i_X4 tyX4 tyX4_ok nmX4 hown hK hP hD hS 0 rfl rfl 4 (by decide) w_2 (fun _ h9 => h9) rfl (by decide +kernel) (rfl) (rfl) (Nat.le_of_ble_eq_true rfl) dX4_acceptsLetter_71 (fun H locs hP hD hS => ?_)
      have hP : va_P (dC, dI) vwCl [(qs, .inr (4, [.ref qsm, .ref qst, .int sc, .int se, .int (16 : Int32), .int sn])), (qsm, .inl (cyI, 26, .inl sfm)), (qst, .inl (cyI, 26, .inl sft))] H := hP
      have hD : va_D A [(qs, .inr (4, [.ref qsm, .ref qst, .int sc, .int se, .int (16 : Int32), .int sn])), (qsm, .inl (cyI, 26, .inl sfm)), (qst, .inl (cyI, 26, .inl sft))] := hD
      refine lv_goto (tgt := 96) hx hb dX4_acceptsLetter_74 (by decide) ?_
      exact J96 sc se (16 : Int32) sn sfm sft _ _ hP hD hS ls (lv_sub hl [0, 1] rfl) hE
    ·
      have hE := hE.trans (if_neg c_3)
      by_cases c_4 : ch = 104
      ·
        have hE := hE.trans (if_pos c_4)
        refine lv_lookup (tgt := 52) (off := 51) hx hb dX4_acceptsLetter_1 (by decide) (by rw [c_4]; decide) (by decide) ?_
        refine lv_aload_n hx hb dX4_acceptsLetter_52 rfl (lv_at hl 0 rfl) ?_
        refine lv_iconst (v := 1) hx hb dX4_acceptsLetter_53 (by decide) ?_
        refine va_put (D := (dC, dI)) (ci := 4) (v := .int (1 : Int32)) (ty := .int) (C := RX4) (T := TX4) (N := 6) hx hb hts i_X4 tyX4 tyX4_ok nmX4 hown hK hP hD hS 0 rfl rfl 4 (by decide) w_2 (fun _ h9 => h9) rfl (by decide +kernel) (rfl) (rfl) (Nat.le_of_ble_eq_true rfl) dX4_acceptsLetter_54 (fun H locs hP hD hS => ?_)
        have hP : va_P (dC, dI) vwCl [(qs, .inr (4, [.ref qsm, .ref qst, .int sc, .int se, .int (1 : Int32), .int sn])), (qsm, .inl (cyI, 26, .inl sfm)), (qst, .inl (cyI, 26, .inl sft))] H := hP
        have hD : va_D A [(qs, .inr (4, [.ref qsm, .ref qst, .int sc, .int se, .int (1 : Int32), .int sn])), (qsm, .inl (cyI, 26, .inl sfm)), (qst, .inl (cyI, 26, .inl sft))] := hD
        refine lv_goto (tgt := 96) hx hb dX4_acceptsLetter_57 (by decide) ?_
        exact J96 sc se (1 : Int32) sn sfm sft _ _ hP hD hS ls (lv_sub hl [0, 1] rfl) hE
      ·
        have hE := hE.trans (if_neg c_4)
        by_cases c_5 : ch = 115
        ·
          have hE := hE.trans (if_pos c_5)
          refine lv_lookup (tgt := 77) (off := 76) hx hb dX4_acceptsLetter_1 (by decide) (by rw [c_5]; decide) (by decide) ?_
          refine lv_aload_n hx hb dX4_acceptsLetter_77 rfl (lv_at hl 0 rfl) ?_
          refine lv_bipush (v := 64) hx hb dX4_acceptsLetter_78 (by decide) ?_
          refine va_put (D := (dC, dI)) (ci := 4) (v := .int (64 : Int32)) (ty := .int) (C := RX4) (T := TX4) (N := 6) hx hb hts i_X4 tyX4 tyX4_ok nmX4 hown hK hP hD hS 0 rfl rfl 4 (by decide) w_2 (fun _ h9 => h9) rfl (by decide +kernel) (rfl) (rfl) (Nat.le_of_ble_eq_true rfl) dX4_acceptsLetter_80 (fun H locs hP hD hS => ?_)
          have hP : va_P (dC, dI) vwCl [(qs, .inr (4, [.ref qsm, .ref qst, .int sc, .int se, .int (64 : Int32), .int sn])), (qsm, .inl (cyI, 26, .inl sfm)), (qst, .inl (cyI, 26, .inl sft))] H := hP
          have hD : va_D A [(qs, .inr (4, [.ref qsm, .ref qst, .int sc, .int se, .int (64 : Int32), .int sn])), (qsm, .inl (cyI, 26, .inl sfm)), (qst, .inl (cyI, 26, .inl sft))] := hD
          refine lv_goto (tgt := 96) hx hb dX4_acceptsLetter_83 (by decide) ?_
          exact J96 sc se (64 : Int32) sn sfm sft _ _ hP hD hS ls (lv_sub hl [0, 1] rfl) hE
        ·
          have hE := hE.trans (if_neg c_5)
          by_cases c_6 : ch = 119
          ·
            have hE := hE.trans (if_pos c_6)
            refine lv_lookup (tgt := 86) (off := 85) hx hb dX4_acceptsLetter_1 (by decide) (by rw [c_6]; decide) (by decide) ?_
            refine lv_aload_n hx hb dX4_acceptsLetter_86 rfl (lv_at hl 0 rfl) ?_
            refine lv_iconst (v := 0) hx hb dX4_acceptsLetter_87 (by decide) ?_
            refine va_put (D := (dC, dI)) (ci := 4) (v := .int (0 : Int32)) (ty := .int) (C := RX4) (T := TX4) (N := 6) hx hb hts i_X4 tyX4 tyX4_ok nmX4 hown hK hP hD hS 0 rfl rfl 4 (by decide) w_2 (fun _ h9 => h9) rfl (by decide +kernel) (rfl) (rfl) (Nat.le_of_ble_eq_true rfl) dX4_acceptsLetter_88 (fun H locs hP hD hS => ?_)
            have hP : va_P (dC, dI) vwCl [(qs, .inr (4, [.ref qsm, .ref qst, .int sc, .int se, .int (0 : Int32), .int sn])), (qsm, .inl (cyI, 26, .inl sfm)), (qst, .inl (cyI, 26, .inl sft))] H := hP
            have hD : va_D A [(qs, .inr (4, [.ref qsm, .ref qst, .int sc, .int se, .int (0 : Int32), .int sn])), (qsm, .inl (cyI, 26, .inl sfm)), (qst, .inl (cyI, 26, .inl sft))] := hD
            refine lv_goto (tgt := 96) hx hb dX4_acceptsLetter_91 (by decide) ?_
            exact J96 sc se (0 : Int32) sn sfm sft _ _ hP hD hS ls (lv_sub hl [0, 1] rfl) hE
          ·
            have hE := hE.trans (if_neg c_6)
            refine lv_lookup (tgt := 94) (off := 93) hx hb dX4_acceptsLetter_1 (by decide) ((lv_osw c_2 rfl).trans ((lv_osw c_3 rfl).trans ((lv_osw c_4 rfl).trans ((lv_osw c_5 rfl).trans ((lv_osw c_6 rfl).trans rfl))))) (by decide) ?_
            refine lv_iconst (v := 0) hx hb dX4_acceptsLetter_94 (by decide) ?_
            exact W.zret (v := (0 : Int32)) hx hb hr rfl (fun t h9 hW => ⟨⟨(0 : Int32), (((0 : Int32), sc, se, sk, sn, sfm, sft) : Int32 × Int32 × Int32 × Int32 × Int32 × (Nat → Int32) × (Nat → Int32)), rfl, ⟨hE.symm, rfl, (by decide)⟩, by rw [h9]; exact hP, hD⟩, hS.F h9⟩) hS.2.2 dX4_acceptsLetter_95
def x_X4_acceptsSign_j30 (w0_2_30 : Int32) (w0_3_30 : Int32) (w0_4_30 : Int32) (w0_5_30 : Int32) (w1_a_30 : Nat → Int32) (w2_a_30 : Nat → Int32) : Int32 × Int32 × Int32 × Int32 × Int32 × (Nat → Int32) × (Nat → Int32) :=
  ((1 : Int32), w0_2_30, (2 : Int32), w0_4_30, w0_5_30, w1_a_30, w2_a_30)
def x_X4_acceptsSign_j14 (sc : Int32) (se : Int32) (sk : Int32) (sn : Int32) (sfm : Nat → Int32) (sft : Nat → Int32) (ch : Int32) : Int32 × Int32 × Int32 × Int32 × Int32 × (Nat → Int32) × (Nat → Int32) :=
  if ch = (45 : Int32) then (spLet ((sk <<< ((1 : Int32) &&& 31))) (fun x_3 => x_X4_acceptsSign_j30 sc se x_3 sn sfm sft)) else (x_X4_acceptsSign_j30 sc se sk sn sfm sft)
def x_X4_acceptsSign (sc : Int32) (se : Int32) (sk : Int32) (sn : Int32) (sfm : Nat → Int32) (sft : Nat → Int32) (ch : Int32) : Int32 × Int32 × Int32 × Int32 × Int32 × (Nat → Int32) × (Nat → Int32) :=
  if ch = (43 : Int32) then (x_X4_acceptsSign_j14 sc se sk sn sfm sft ch) else (if ch = (45 : Int32) then (x_X4_acceptsSign_j14 sc se sk sn sfm sft ch) else (((0 : Int32), sc, se, sk, sn, sfm, sft)))
set_option maxHeartbeats 1000000 in
set_option maxRecDepth 100000 in
theorem c_X4_acceptsSign (l : Launch) (dC : Nat → ClassId) (dI : Nat → Nat → Nat) (cyI : ClassId) (sz : Nat) (qs : Nat) (qsm : Nat) (qst : Nat) (sc : Int32) (se : Int32) (sk : Int32) (sn : Int32) (sfm : Nat → Int32) (sft : Nat → Int32) (ch : Int32) : Met l yX4_acceptsSign wqX4_acceptsSign ({ frames := 0, cells := 0, slots := 0, locals := 0 } : Room) (va_Pc [.ref qs, .int ch] (pC (dC, dI) [(qs, .inr (4, [.ref qsm, .ref qst, .int sc, .int se, .int sk, .int sn])), (qsm, .inl (cyI, 26, .inl sfm)), (qst, .inl (cyI, 26, .inl sft))] [(cyI, .int)] eX sz)) (va_Qi (fun (r : Int32) (u : Int32 × Int32 × Int32 × Int32 × Int32 × (Nat → Int32) × (Nat → Int32)) => u = (x_X4_acceptsSign sc se sk sn sfm sft ch) ∧ r = u.1 ∧ (r = 0 ∨ r = 1)) (fun (u : Int32 × Int32 × Int32 × Int32 × Int32 × (Nat → Int32) × (Nat → Int32)) t => va_P (dC, dI) vwCl [(qs, .inr (4, [.ref qsm, .ref qst, .int (u.2.1), .int (u.2.2.1), .int (u.2.2.2.1), .int (u.2.2.2.2.1)])), (qsm, .inl (cyI, 26, .inl (u.2.2.2.2.2.1))), (qst, .inl (cyI, 26, .inl (u.2.2.2.2.2.2)))] t.heap ∧ va_D (va_A [(qs, .inr (4, [.ref qsm, .ref qst, .int sc, .int se, .int sk, .int sn])), (qsm, .inl (cyI, 26, .inl sfm)), (qst, .inl (cyI, 26, .inl sft))] sz) [(qs, .inr (4, [.ref qsm, .ref qst, .int (u.2.1), .int (u.2.2.1), .int (u.2.2.2.1), .int (u.2.2.2.2.1)])), (qsm, .inl (cyI, 26, .inl (u.2.2.2.2.2.1))), (qst, .inl (cyI, 26, .inl (u.2.2.2.2.2.2)))]) (va_A [(qs, .inr (4, [.ref qsm, .ref qst, .int sc, .int se, .int sk, .int sn])), (qsm, .inl (cyI, 26, .inl sfm)), (qst, .inl (cyI, 26, .inl sft))] sz)) 0 0 (va_A [(qs, .inr (4, [.ref qsm, .ref qst, .int sc, .int se, .int sk, .int sn])), (qsm, .inl (cyI, 26, .inl sfm)), (qst, .inl (cyI, 26, .inl sft))] sz) := by
  refine Met.ofW (cc := cX4_acceptsSign) (maxL := 2) (ret := (some .boolean)) (by decide) rfl ?_
  intro p e s m args below meth c s₁ B hml hv
  obtain ⟨rfl, hsz, hP, hK, hD0, he⟩ := hv
  have hx := B.exec
  have hb := B.bytes
  have hr := B.returns
  have hts := atoms_spec (ws := wqX4_acceptsSign) B.pre
  have hown : s.vm.findClass RX4 = some m.cls := findClass_of_methodNamed B.named
  have hlocks := B.notSynchronized
  have w_0 := hts (Cond.fieldLink RX4 22 "CraneLimiter$Script" "expected" "I") (List.mem_cons_of_mem _ b_940)
  have w_1 := hts (Cond.fieldLink RX4 42 "CraneLimiter$Script" "mask" "I") (List.mem_cons_of_mem _ b_949)
  have i_X4 : ∀ w ∈ u_ws RX4 TX4 6, w ∈ wqX4_acceptsSign := fun w h => List.mem_cons_of_mem _ (bX4 w h)
  subst hsz
  have hD := hD0.self (sz := s.heap.size)
  generalize hAe : va_A [(qs, .inr (4, [.ref qsm, .ref qst, .int sc, .int se, .int sk, .int sn])), (qsm, .inl (cyI, 26, .inl sfm)), (qst, .inl (cyI, 26, .inl sft))] s.heap.size = A at hD he ⊢
  have hA : ∀ q : Nat, s.heap.size ≤ q → A q := fun q h => by rw [← hAe]; exact Or.inr h
  have hS : va_S A s.heap s.heap [] := va_S.rf
  have hP : va_P (dC, dI) vwCl [(qs, .inr (4, [.ref qsm, .ref qst, .int sc, .int se, .int sk, .int sn])), (qsm, .inl (cyI, 26, .inl sfm)), (qst, .inl (cyI, 26, .inl sft))] s.heap := hP
  have hl := lv_entry ([.ref qs, .int ch] : List Value) (n := 2) (Nat.le_of_ble_eq_true rfl)
  rw [lg_entry_eq]
  generalize (lg_sl ([.ref qs, .int ch] : List Value) ++ List.replicate (2 - (lg_sl ([.ref qs, .int ch] : List Value)).length) Slot.unset).toArray = ls at hl ⊢
  have hl : lv_has ls 2 [(0, .ref qs), (1, .int ch)] := hl
  have hE : x_X4_acceptsSign sc se sk sn sfm sft ch = x_X4_acceptsSign sc se sk sn sfm sft ch := rfl
  refine lv_iload_n hx hb dX4_acceptsSign_0 rfl (lv_at hl 1 rfl) ?_
  refine lv_bipush (v := 43) hx hb dX4_acceptsSign_1 (by decide) ?_
  have J14 : ∀ (ls : Array Slot) (hl : lv_has ls 2 [(0, .ref qs), (1, .int ch)]) (hE : (x_X4_acceptsSign sc se sk sn sfm sft ch) = x_X4_acceptsSign_j14 sc se sk sn sfm sft ch), W p l e (headSpec wqX4_acceptsSign ({ frames := 0, cells := 0, slots := 0, locals := 0 } : Room)).room s m ([.ref qs, .int ch] : List Value).toArray below meth c s.heap [] 0 0 (MQ below (va_Qi (fun (r : Int32) (u : Int32 × Int32 × Int32 × Int32 × Int32 × (Nat → Int32) × (Nat → Int32)) => u = (x_X4_acceptsSign sc se sk sn sfm sft ch) ∧ r = u.1 ∧ (r = 0 ∨ r = 1)) (fun (u : Int32 × Int32 × Int32 × Int32 × Int32 × (Nat → Int32) × (Nat → Int32)) t => va_P (dC, dI) vwCl [(qs, .inr (4, [.ref qsm, .ref qst, .int (u.2.1), .int (u.2.2.1), .int (u.2.2.2.1), .int (u.2.2.2.2.1)])), (qsm, .inl (cyI, 26, .inl (u.2.2.2.2.2.1))), (qst, .inl (cyI, 26, .inl (u.2.2.2.2.2.2)))] t.heap ∧ va_D A [(qs, .inr (4, [.ref qsm, .ref qst, .int (u.2.1), .int (u.2.2.1), .int (u.2.2.2.1), .int (u.2.2.2.2.1)])), (qsm, .inl (cyI, 26, .inl (u.2.2.2.2.2.1))), (qst, .inl (cyI, 26, .inl (u.2.2.2.2.2.2)))]) A) ([.ref qs, .int ch] : List Value).toArray s 0 0 A) (F0 m 14 ls []) := by
    intro ls hl hE
    refine lv_iload_n hx hb dX4_acceptsSign_14 rfl (lv_at hl 1 rfl) ?_
    refine lv_bipush (v := 45) hx hb dX4_acceptsSign_15 (by decide) ?_
    have J30 : ∀ (w0_2_30 : Int32) (w0_3_30 : Int32) (w0_4_30 : Int32) (w0_5_30 : Int32) (w1_a_30 : Nat → Int32) (w2_a_30 : Nat → Int32) (H : Heap) (locs : List Loc) (hP : va_P (dC, dI) vwCl [(qs, .inr (4, [.ref qsm, .ref qst, .int w0_2_30, .int w0_3_30, .int w0_4_30, .int w0_5_30])), (qsm, .inl (cyI, 26, .inl w1_a_30)), (qst, .inl (cyI, 26, .inl w2_a_30))] H) (hD : va_D A [(qs, .inr (4, [.ref qsm, .ref qst, .int w0_2_30, .int w0_3_30, .int w0_4_30, .int w0_5_30])), (qsm, .inl (cyI, 26, .inl w1_a_30)), (qst, .inl (cyI, 26, .inl w2_a_30))]) (hS : va_S A s.heap H locs) (ls : Array Slot) (hl : lv_has ls 2 [(0, .ref qs)]) (hE : (x_X4_acceptsSign sc se sk sn sfm sft ch) = x_X4_acceptsSign_j30 w0_2_30 w0_3_30 w0_4_30 w0_5_30 w1_a_30 w2_a_30), W p l e (headSpec wqX4_acceptsSign ({ frames := 0, cells := 0, slots := 0, locals := 0 } : Room)).room s m ([.ref qs, .int ch] : List Value).toArray below meth c H locs 0 0 (MQ below (va_Qi (fun (r : Int32) (u : Int32 × Int32 × Int32 × Int32 × Int32 × (Nat → Int32) × (Nat → Int32)) => u = (x_X4_acceptsSign sc se sk sn sfm sft ch) ∧ r = u.1 ∧ (r = 0 ∨ r = 1)) (fun (u : Int32 × Int32 × Int32 × Int32 × Int32 × (Nat → Int32) × (Nat → Int32)) t => va_P (dC, dI) vwCl [(qs, .inr (4, [.ref qsm, .ref qst, .int (u.2.1), .int (u.2.2.1), .int (u.2.2.2.1), .int (u.2.2.2.2.1)])), (qsm, .inl (cyI, 26, .inl (u.2.2.2.2.2.1))), (qst, .inl (cyI, 26, .inl (u.2.2.2.2.2.2)))] t.heap ∧ va_D A [(qs, .inr (4, [.ref qsm, .ref qst, .int (u.2.1), .int (u.2.2.1), .int (u.2.2.2.1), .int (u.2.2.2.2.1)])), (qsm, .inl (cyI, 26, .inl (u.2.2.2.2.2.1))), (qst, .inl (cyI, 26, .inl (u.2.2.2.2.2.2)))]) A) ([.ref qs, .int ch] : List Value).toArray s 0 0 A) (F0 m 30 ls []) := by
      intro w0_2_30 w0_3_30 w0_4_30 w0_5_30 w1_a_30 w2_a_30 H locs hP hD hS ls hl hE
      refine lv_aload_n hx hb dX4_acceptsSign_30 rfl (lv_at hl 0 rfl) ?_
      refine lv_iconst (v := 2) hx hb dX4_acceptsSign_31 (by decide) ?_
      refine va_put (D := (dC, dI)) (ci := 4) (v := .int (2 : Int32)) (ty := .int) (C := RX4) (T := TX4) (N := 6) hx hb hts i_X4 tyX4 tyX4_ok nmX4 hown hK hP hD hS 0 rfl rfl 3 (by decide) w_0 (fun _ h9 => h9) rfl (by decide +kernel) (rfl) (rfl) (Nat.le_of_ble_eq_true rfl) dX4_acceptsSign_32 (fun H locs hP hD hS => ?_)
      have hP : va_P (dC, dI) vwCl [(qs, .inr (4, [.ref qsm, .ref qst, .int w0_2_30, .int (2 : Int32), .int w0_4_30, .int w0_5_30])), (qsm, .inl (cyI, 26, .inl w1_a_30)), (qst, .inl (cyI, 26, .inl w2_a_30))] H := hP
      have hD : va_D A [(qs, .inr (4, [.ref qsm, .ref qst, .int w0_2_30, .int (2 : Int32), .int w0_4_30, .int w0_5_30])), (qsm, .inl (cyI, 26, .inl w1_a_30)), (qst, .inl (cyI, 26, .inl w2_a_30))] := hD
      refine lv_iconst (v := 1) hx hb dX4_acceptsSign_35 (by decide) ?_
      exact W.zret (v := (1 : Int32)) hx hb hr rfl (fun t h9 hW => ⟨⟨(1 : Int32), (((1 : Int32), w0_2_30, (2 : Int32), w0_4_30, w0_5_30, w1_a_30, w2_a_30) : Int32 × Int32 × Int32 × Int32 × Int32 × (Nat → Int32) × (Nat → Int32)), rfl, ⟨hE.symm, rfl, (by decide)⟩, by rw [h9]; exact hP, hD⟩, hS.F h9⟩) hS.2.2 dX4_acceptsSign_36
    refine lv_icmp_ne (tgt := 30) hx hb dX4_acceptsSign_17 (by decide) (fun c_2 => ?_) (fun c_2 => ?_)
    ·
      have hE := hE.trans (if_neg c_2)
      exact J30 sc se sk sn sfm sft _ _ hP hD hS ls (lv_sub hl [0] rfl) hE
    ·
      have hE := hE.trans (if_pos c_2)
      refine lv_aload_n hx hb dX4_acceptsSign_20 rfl (lv_at hl 0 rfl) ?_
      refine lv_dup hx hb dX4_acceptsSign_21 rfl ?_
      refine va_get (D := (dC, dI)) (ci := 4) (v := .int sk) (C := RX4) (T := TX4) (N := 6) hx hb hts i_X4 hown hK hP 0 rfl rfl 4 (by decide) w_1 (fun _ h9 => h9) rfl dX4_acceptsSign_22 ?_
      refine lv_iconst (v := 1) hx hb dX4_acceptsSign_25 (by decide) ?_
      refine lv_ishl hx hb dX4_acceptsSign_26 ?_
      refine lv_topi (fun x_3 ex_3 => ?_)
      have hE := hE.trans (spLet_eq ex_3)
      refine va_put (D := (dC, dI)) (ci := 4) (v := .int x_3) (ty := .int) (C := RX4) (T := TX4) (N := 6) hx hb hts i_X4 tyX4 tyX4_ok nmX4 hown hK hP hD hS 0 rfl rfl 4 (by decide) w_1 (fun _ h9 => h9) rfl (by decide +kernel) (rfl) (rfl) (Nat.le_of_ble_eq_true rfl) dX4_acceptsSign_27 (fun H locs hP hD hS => ?_)
      have hP : va_P (dC, dI) vwCl [(qs, .inr (4, [.ref qsm, .ref qst, .int sc, .int se, .int x_3, .int sn])), (qsm, .inl (cyI, 26, .inl sfm)), (qst, .inl (cyI, 26, .inl sft))] H := hP
      have hD : va_D A [(qs, .inr (4, [.ref qsm, .ref qst, .int sc, .int se, .int x_3, .int sn])), (qsm, .inl (cyI, 26, .inl sfm)), (qst, .inl (cyI, 26, .inl sft))] := hD
      exact J30 sc se x_3 sn sfm sft _ _ hP hD hS ls (lv_sub hl [0] rfl) hE
  refine lv_icmp_eq (tgt := 14) hx hb dX4_acceptsSign_3 (by decide) (fun c_1 => ?_) (fun c_1 => ?_)
  ·
    have hE := hE.trans (if_pos c_1)
    exact J14 ls (lv_sub hl [0, 1] rfl) hE
  ·
    have hE := hE.trans (if_neg c_1)
    refine lv_iload_n hx hb dX4_acceptsSign_6 rfl (lv_at hl 1 rfl) ?_
    refine lv_bipush (v := 45) hx hb dX4_acceptsSign_7 (by decide) ?_
    refine lv_icmp_eq (tgt := 14) hx hb dX4_acceptsSign_9 (by decide) (fun c_4 => ?_) (fun c_4 => ?_)
    ·
      have hE := hE.trans (if_pos c_4)
      exact J14 ls (lv_sub hl [0, 1] rfl) hE
    ·
      have hE := hE.trans (if_neg c_4)
      refine lv_iconst (v := 0) hx hb dX4_acceptsSign_12 (by decide) ?_
      exact W.zret (v := (0 : Int32)) hx hb hr rfl (fun t h9 hW => ⟨⟨(0 : Int32), (((0 : Int32), sc, se, sk, sn, sfm, sft) : Int32 × Int32 × Int32 × Int32 × Int32 × (Nat → Int32) × (Nat → Int32)), rfl, ⟨hE.symm, rfl, (by decide)⟩, by rw [h9]; exact hP, hD⟩, hS.F h9⟩) hS.2.2 dX4_acceptsSign_13
def x_X4_acceptsDigit (sc : Int32) (se : Int32) (sk : Int32) (sn : Int32) (sfm : Nat → Int32) (sft : Nat → Int32) (ch : Int32) (nx : Int32) : Int32 × Int32 × Int32 × Int32 × Int32 × (Nat → Int32) × (Nat → Int32) :=
  if ch < (48 : Int32) then (((0 : Int32), sc, se, sk, sn, sfm, sft)) else (if ch ≤ (57 : Int32) then (spLet (((sn * (10 : Int32)) + (ch - (48 : Int32)))) (fun x_3 => ((1 : Int32), sc, nx, sk, x_3, sfm, sft))) else (((0 : Int32), sc, se, sk, sn, sfm, sft)))
set_option maxHeartbeats 1000000 in
set_option maxRecDepth 100000 in
theorem c_X4_acceptsDigit (l : Launch) (dC : Nat → ClassId) (dI : Nat → Nat → Nat) (cyI : ClassId) (sz : Nat) (qs : Nat) (qsm : Nat) (qst : Nat) (sc : Int32) (se : Int32) (sk : Int32) (sn : Int32) (sfm : Nat → Int32) (sft : Nat → Int32) (ch : Int32) (nx : Int32) : Met l yX4_acceptsDigit wqX4_acceptsDigit ({ frames := 0, cells := 0, slots := 0, locals := 0 } : Room) (va_Pc [.ref qs, .int ch, .int nx] (pC (dC, dI) [(qs, .inr (4, [.ref qsm, .ref qst, .int sc, .int se, .int sk, .int sn])), (qsm, .inl (cyI, 26, .inl sfm)), (qst, .inl (cyI, 26, .inl sft))] [(cyI, .int)] eX sz)) (va_Qi (fun (r : Int32) (u : Int32 × Int32 × Int32 × Int32 × Int32 × (Nat → Int32) × (Nat → Int32)) => u = (x_X4_acceptsDigit sc se sk sn sfm sft ch nx) ∧ r = u.1 ∧ (r = 0 ∨ r = 1)) (fun (u : Int32 × Int32 × Int32 × Int32 × Int32 × (Nat → Int32) × (Nat → Int32)) t => va_P (dC, dI) vwCl [(qs, .inr (4, [.ref qsm, .ref qst, .int (u.2.1), .int (u.2.2.1), .int (u.2.2.2.1), .int (u.2.2.2.2.1)])), (qsm, .inl (cyI, 26, .inl (u.2.2.2.2.2.1))), (qst, .inl (cyI, 26, .inl (u.2.2.2.2.2.2)))] t.heap ∧ va_D (va_A [(qs, .inr (4, [.ref qsm, .ref qst, .int sc, .int se, .int sk, .int sn])), (qsm, .inl (cyI, 26, .inl sfm)), (qst, .inl (cyI, 26, .inl sft))] sz) [(qs, .inr (4, [.ref qsm, .ref qst, .int (u.2.1), .int (u.2.2.1), .int (u.2.2.2.1), .int (u.2.2.2.2.1)])), (qsm, .inl (cyI, 26, .inl (u.2.2.2.2.2.1))), (qst, .inl (cyI, 26, .inl (u.2.2.2.2.2.2)))]) (va_A [(qs, .inr (4, [.ref qsm, .ref qst, .int sc, .int se, .int sk, .int sn])), (qsm, .inl (cyI, 26, .inl sfm)), (qst, .inl (cyI, 26, .inl sft))] sz)) 0 0 (va_A [(qs, .inr (4, [.ref qsm, .ref qst, .int sc, .int se, .int sk, .int sn])), (qsm, .inl (cyI, 26, .inl sfm)), (qst, .inl (cyI, 26, .inl sft))] sz) := by
  refine Met.ofW (cc := cX4_acceptsDigit) (maxL := 3) (ret := (some .boolean)) (by decide) rfl ?_
  intro p e s m args below meth c s₁ B hml hv
  obtain ⟨rfl, hsz, hP, hK, hD0, he⟩ := hv
  have hx := B.exec
  have hb := B.bytes
  have hr := B.returns
  have hts := atoms_spec (ws := wqX4_acceptsDigit) B.pre
  have hown : s.vm.findClass RX4 = some m.cls := findClass_of_methodNamed B.named
  have hlocks := B.notSynchronized
  have w_0 := hts (Cond.fieldLink RX4 45 "CraneLimiter$Script" "number" "I") (List.mem_cons_of_mem _ b_950)
  have w_1 := hts (Cond.fieldLink RX4 22 "CraneLimiter$Script" "expected" "I") (List.mem_cons_of_mem _ b_940)
  have i_X4 : ∀ w ∈ u_ws RX4 TX4 6, w ∈ wqX4_acceptsDigit := fun w h => List.mem_cons_of_mem _ (bX4 w h)
  subst hsz
  have hD := hD0.self (sz := s.heap.size)
  generalize hAe : va_A [(qs, .inr (4, [.ref qsm, .ref qst, .int sc, .int se, .int sk, .int sn])), (qsm, .inl (cyI, 26, .inl sfm)), (qst, .inl (cyI, 26, .inl sft))] s.heap.size = A at hD he ⊢
  have hA : ∀ q : Nat, s.heap.size ≤ q → A q := fun q h => by rw [← hAe]; exact Or.inr h
  have hS : va_S A s.heap s.heap [] := va_S.rf
  have hP : va_P (dC, dI) vwCl [(qs, .inr (4, [.ref qsm, .ref qst, .int sc, .int se, .int sk, .int sn])), (qsm, .inl (cyI, 26, .inl sfm)), (qst, .inl (cyI, 26, .inl sft))] s.heap := hP
  have hl := lv_entry ([.ref qs, .int ch, .int nx] : List Value) (n := 3) (Nat.le_of_ble_eq_true rfl)
  rw [lg_entry_eq]
  generalize (lg_sl ([.ref qs, .int ch, .int nx] : List Value) ++ List.replicate (3 - (lg_sl ([.ref qs, .int ch, .int nx] : List Value)).length) Slot.unset).toArray = ls at hl ⊢
  have hl : lv_has ls 3 [(0, .ref qs), (1, .int ch), (2, .int nx)] := hl
  have hE : x_X4_acceptsDigit sc se sk sn sfm sft ch nx = x_X4_acceptsDigit sc se sk sn sfm sft ch nx := rfl
  refine lv_iload_n hx hb dX4_acceptsDigit_0 rfl (lv_at hl 1 rfl) ?_
  refine lv_bipush (v := 48) hx hb dX4_acceptsDigit_1 (by decide) ?_
  refine lv_icmp_lt (tgt := 12) hx hb dX4_acceptsDigit_3 (by decide) (fun c_1 => ?_) (fun c_1 => ?_)
  ·
    have hE := hE.trans (if_pos c_1)
    refine lv_iconst (v := 0) hx hb dX4_acceptsDigit_12 (by decide) ?_
    exact W.zret (v := (0 : Int32)) hx hb hr rfl (fun t h9 hW => ⟨⟨(0 : Int32), (((0 : Int32), sc, se, sk, sn, sfm, sft) : Int32 × Int32 × Int32 × Int32 × Int32 × (Nat → Int32) × (Nat → Int32)), rfl, ⟨hE.symm, rfl, (by decide)⟩, by rw [h9]; exact hP, hD⟩, hS.F h9⟩) hS.2.2 dX4_acceptsDigit_13
  ·
    have hE := hE.trans (if_neg c_1)
    refine lv_iload_n hx hb dX4_acceptsDigit_6 rfl (lv_at hl 1 rfl) ?_
    refine lv_bipush (v := 57) hx hb dX4_acceptsDigit_7 (by decide) ?_
    refine lv_icmp_le (tgt := 14) hx hb dX4_acceptsDigit_9 (by decide) (fun c_2 => ?_) (fun c_2 => ?_)
    ·
      have hE := hE.trans (if_pos c_2)
      refine lv_aload_n hx hb dX4_acceptsDigit_14 rfl (lv_at hl 0 rfl) ?_
      refine lv_aload_n hx hb dX4_acceptsDigit_15 rfl (lv_at hl 0 rfl) ?_
      refine va_get (D := (dC, dI)) (ci := 4) (v := .int sn) (C := RX4) (T := TX4) (N := 6) hx hb hts i_X4 hown hK hP 0 rfl rfl 5 (by decide) w_0 (fun _ h9 => h9) rfl dX4_acceptsDigit_16 ?_
      refine lv_bipush (v := 10) hx hb dX4_acceptsDigit_19 (by decide) ?_
      refine lv_imul hx hb dX4_acceptsDigit_21 ?_
      refine lv_iload_n hx hb dX4_acceptsDigit_22 rfl (lv_at hl 1 rfl) ?_
      refine lv_bipush (v := 48) hx hb dX4_acceptsDigit_23 (by decide) ?_
      refine lv_isub hx hb dX4_acceptsDigit_25 ?_
      refine lv_iadd hx hb dX4_acceptsDigit_26 ?_
      refine lv_topi (fun x_3 ex_3 => ?_)
      have hE := hE.trans (spLet_eq ex_3)
      refine va_put (D := (dC, dI)) (ci := 4) (v := .int x_3) (ty := .int) (C := RX4) (T := TX4) (N := 6) hx hb hts i_X4 tyX4 tyX4_ok nmX4 hown hK hP hD hS 0 rfl rfl 5 (by decide) w_0 (fun _ h9 => h9) rfl (by decide +kernel) (rfl) (rfl) (Nat.le_of_ble_eq_true rfl) dX4_acceptsDigit_27 (fun H locs hP hD hS => ?_)
      have hP : va_P (dC, dI) vwCl [(qs, .inr (4, [.ref qsm, .ref qst, .int sc, .int se, .int sk, .int x_3])), (qsm, .inl (cyI, 26, .inl sfm)), (qst, .inl (cyI, 26, .inl sft))] H := hP
      have hD : va_D A [(qs, .inr (4, [.ref qsm, .ref qst, .int sc, .int se, .int sk, .int x_3])), (qsm, .inl (cyI, 26, .inl sfm)), (qst, .inl (cyI, 26, .inl sft))] := hD
      refine lv_aload_n hx hb dX4_acceptsDigit_30 rfl (lv_at hl 0 rfl) ?_
      refine lv_iload_n hx hb dX4_acceptsDigit_31 rfl (lv_at hl 2 rfl) ?_
      refine va_put (D := (dC, dI)) (ci := 4) (v := .int nx) (ty := .int) (C := RX4) (T := TX4) (N := 6) hx hb hts i_X4 tyX4 tyX4_ok nmX4 hown hK hP hD hS 0 rfl rfl 3 (by decide) w_1 (fun _ h9 => h9) rfl (by decide +kernel) (rfl) (rfl) (Nat.le_of_ble_eq_true rfl) dX4_acceptsDigit_32 (fun H locs hP hD hS => ?_)
      have hP : va_P (dC, dI) vwCl [(qs, .inr (4, [.ref qsm, .ref qst, .int sc, .int nx, .int sk, .int x_3])), (qsm, .inl (cyI, 26, .inl sfm)), (qst, .inl (cyI, 26, .inl sft))] H := hP
      have hD : va_D A [(qs, .inr (4, [.ref qsm, .ref qst, .int sc, .int nx, .int sk, .int x_3])), (qsm, .inl (cyI, 26, .inl sfm)), (qst, .inl (cyI, 26, .inl sft))] := hD
      refine lv_iconst (v := 1) hx hb dX4_acceptsDigit_35 (by decide) ?_
      exact W.zret (v := (1 : Int32)) hx hb hr rfl (fun t h9 hW => ⟨⟨(1 : Int32), (((1 : Int32), sc, nx, sk, x_3, sfm, sft) : Int32 × Int32 × Int32 × Int32 × Int32 × (Nat → Int32) × (Nat → Int32)), rfl, ⟨hE.symm, rfl, (by decide)⟩, by rw [h9]; exact hP, hD⟩, hS.F h9⟩) hS.2.2 dX4_acceptsDigit_36
    ·
      have hE := hE.trans (if_neg c_2)
      refine lv_iconst (v := 0) hx hb dX4_acceptsDigit_12 (by decide) ?_
      exact W.zret (v := (0 : Int32)) hx hb hr rfl (fun t h9 hW => ⟨⟨(0 : Int32), (((0 : Int32), sc, se, sk, sn, sfm, sft) : Int32 × Int32 × Int32 × Int32 × Int32 × (Nat → Int32) × (Nat → Int32)), rfl, ⟨hE.symm, rfl, (by decide)⟩, by rw [h9]; exact hP, hD⟩, hS.F h9⟩) hS.2.2 dX4_acceptsDigit_13
def x_X4_acceptsBehindNumber (sc : Int32) (se : Int32) (sk : Int32) (sn : Int32) (sfm : Nat → Int32) (sft : Nat → Int32) (ch : Int32) : Int32 × Int32 × Int32 × Int32 × Int32 × (Nat → Int32) × (Nat → Int32) :=
  if sn = 0 then (((0 : Int32), sc, se, sk, sn, sfm, sft)) else (if ch = (32 : Int32) then (((1 : Int32), sc, (4 : Int32), sk, sn, sfm, sft)) else (if ch = (59 : Int32) then (spLet (x_X4_keepOrder sc se sk sn sfm sft) (fun u_4 => if (u_4.1) = 0 then (((0 : Int32), (u_4.2.1), (u_4.2.2.1), (u_4.2.2.2.1), (u_4.2.2.2.2.1), (u_4.2.2.2.2.2.1), (u_4.2.2.2.2.2.2))) else (((1 : Int32), (u_4.2.1), (u_4.2.2.1), (u_4.2.2.2.1), (u_4.2.2.2.2.1), (u_4.2.2.2.2.2.1), (u_4.2.2.2.2.2.2))))) else (((0 : Int32), sc, se, sk, sn, sfm, sft))))
set_option maxHeartbeats 1000000 in
set_option maxRecDepth 100000 in
theorem c_X4_acceptsBehindNumber (l : Launch) (dC : Nat → ClassId) (dI : Nat → Nat → Nat) (cyI : ClassId) (sz : Nat) (qs : Nat) (qsm : Nat) (qst : Nat) (sc : Int32) (se : Int32) (sk : Int32) (sn : Int32) (sfm : Nat → Int32) (sft : Nat → Int32) (ch : Int32) : Met l yX4_acceptsBehindNumber wqX4_acceptsBehindNumber ({ frames := 1, cells := 0, slots := 0, locals := 20 } : Room) (va_Pc [.ref qs, .int ch] (pC (dC, dI) [(qs, .inr (4, [.ref qsm, .ref qst, .int sc, .int se, .int sk, .int sn])), (qsm, .inl (cyI, 26, .inl sfm)), (qst, .inl (cyI, 26, .inl sft))] [(cyI, .int)] eX sz)) (va_Qi (fun (r : Int32) (u : Int32 × Int32 × Int32 × Int32 × Int32 × (Nat → Int32) × (Nat → Int32)) => u = (x_X4_acceptsBehindNumber sc se sk sn sfm sft ch) ∧ r = u.1 ∧ (r = 0 ∨ r = 1)) (fun (u : Int32 × Int32 × Int32 × Int32 × Int32 × (Nat → Int32) × (Nat → Int32)) t => va_P (dC, dI) vwCl [(qs, .inr (4, [.ref qsm, .ref qst, .int (u.2.1), .int (u.2.2.1), .int (u.2.2.2.1), .int (u.2.2.2.2.1)])), (qsm, .inl (cyI, 26, .inl (u.2.2.2.2.2.1))), (qst, .inl (cyI, 26, .inl (u.2.2.2.2.2.2)))] t.heap ∧ va_D (va_A [(qs, .inr (4, [.ref qsm, .ref qst, .int sc, .int se, .int sk, .int sn])), (qsm, .inl (cyI, 26, .inl sfm)), (qst, .inl (cyI, 26, .inl sft))] sz) [(qs, .inr (4, [.ref qsm, .ref qst, .int (u.2.1), .int (u.2.2.1), .int (u.2.2.2.1), .int (u.2.2.2.2.1)])), (qsm, .inl (cyI, 26, .inl (u.2.2.2.2.2.1))), (qst, .inl (cyI, 26, .inl (u.2.2.2.2.2.2)))]) (va_A [(qs, .inr (4, [.ref qsm, .ref qst, .int sc, .int se, .int sk, .int sn])), (qsm, .inl (cyI, 26, .inl sfm)), (qst, .inl (cyI, 26, .inl sft))] sz)) 0 0 (va_A [(qs, .inr (4, [.ref qsm, .ref qst, .int sc, .int se, .int sk, .int sn])), (qsm, .inl (cyI, 26, .inl sfm)), (qst, .inl (cyI, 26, .inl sft))] sz) := by
  refine Met.ofW (cc := cX4_acceptsBehindNumber) (maxL := 2) (ret := (some .boolean)) (by decide) rfl ?_
  intro p e s m args below meth c s₁ B hml hv
  obtain ⟨rfl, hsz, hP, hK, hD0, he⟩ := hv
  have hx := B.exec
  have hb := B.bytes
  have hr := B.returns
  have hts := atoms_spec (ws := wqX4_acceptsBehindNumber) B.pre
  have hown : s.vm.findClass RX4 = some m.cls := findClass_of_methodNamed B.named
  have hlocks := B.notSynchronized
  have w_0 := hts (Cond.fieldLink RX4 45 "CraneLimiter$Script" "number" "I") (List.mem_cons_of_mem _ b_950)
  have w_1 := hts (Cond.fieldLink RX4 22 "CraneLimiter$Script" "expected" "I") (List.mem_cons_of_mem _ b_940)
  have i_X4 : ∀ w ∈ u_ws RX4 TX4 6, w ∈ wqX4_acceptsBehindNumber := fun w h => List.mem_cons_of_mem _ (bX4 w h)
  subst hsz
  have hD := hD0.self (sz := s.heap.size)
  generalize hAe : va_A [(qs, .inr (4, [.ref qsm, .ref qst, .int sc, .int se, .int sk, .int sn])), (qsm, .inl (cyI, 26, .inl sfm)), (qst, .inl (cyI, 26, .inl sft))] s.heap.size = A at hD he ⊢
  have hA : ∀ q : Nat, s.heap.size ≤ q → A q := fun q h => by rw [← hAe]; exact Or.inr h
  have hS : va_S A s.heap s.heap [] := va_S.rf
  have hP : va_P (dC, dI) vwCl [(qs, .inr (4, [.ref qsm, .ref qst, .int sc, .int se, .int sk, .int sn])), (qsm, .inl (cyI, 26, .inl sfm)), (qst, .inl (cyI, 26, .inl sft))] s.heap := hP
  have hl := lv_entry ([.ref qs, .int ch] : List Value) (n := 2) (Nat.le_of_ble_eq_true rfl)
  rw [lg_entry_eq]
  generalize (lg_sl ([.ref qs, .int ch] : List Value) ++ List.replicate (2 - (lg_sl ([.ref qs, .int ch] : List Value)).length) Slot.unset).toArray = ls at hl ⊢
  have hl : lv_has ls 2 [(0, .ref qs), (1, .int ch)] := hl
  have hE : x_X4_acceptsBehindNumber sc se sk sn sfm sft ch = x_X4_acceptsBehindNumber sc se sk sn sfm sft ch := rfl
  refine lv_aload_n hx hb dX4_acceptsBehindNumber_0 rfl (lv_at hl 0 rfl) ?_
  refine va_get (D := (dC, dI)) (ci := 4) (v := .int sn) (C := RX4) (T := TX4) (N := 6) hx hb hts i_X4 hown hK hP 0 rfl rfl 5 (by decide) w_0 (fun _ h9 => h9) rfl dX4_acceptsBehindNumber_1 ?_
  refine lv_if_ne (tgt := 9) hx hb dX4_acceptsBehindNumber_4 (by decide) (fun c_1 => ?_) (fun c_1 => ?_)
  ·
    have hE := hE.trans (if_neg c_1)
    refine lv_iload_n hx hb dX4_acceptsBehindNumber_9 rfl (lv_at hl 1 rfl) ?_
    refine lv_bipush (v := 32) hx hb dX4_acceptsBehindNumber_10 (by decide) ?_
    refine lv_icmp_ne (tgt := 22) hx hb dX4_acceptsBehindNumber_12 (by decide) (fun c_2 => ?_) (fun c_2 => ?_)
    ·
      have hE := hE.trans (if_neg c_2)
      refine lv_iload_n hx hb dX4_acceptsBehindNumber_22 rfl (lv_at hl 1 rfl) ?_
      refine lv_bipush (v := 59) hx hb dX4_acceptsBehindNumber_23 (by decide) ?_
      refine lv_icmp_ne (tgt := 39) hx hb dX4_acceptsBehindNumber_25 (by decide) (fun c_3 => ?_) (fun c_3 => ?_)
      ·
        have hE := hE.trans (if_neg c_3)
        refine lv_iconst (v := 0) hx hb dX4_acceptsBehindNumber_39 (by decide) ?_
        exact W.zret (v := (0 : Int32)) hx hb hr rfl (fun t h9 hW => ⟨⟨(0 : Int32), (((0 : Int32), sc, se, sk, sn, sfm, sft) : Int32 × Int32 × Int32 × Int32 × Int32 × (Nat → Int32) × (Nat → Int32)), rfl, ⟨hE.symm, rfl, (by decide)⟩, by rw [h9]; exact hP, hD⟩, hS.F h9⟩) hS.2.2 dX4_acceptsBehindNumber_40
      ·
        have hE := hE.trans (if_pos c_3)
        refine lv_aload_n hx hb dX4_acceptsBehindNumber_28 rfl (lv_at hl 0 rfl) ?_
        refine mj_i (wr := []) (va_runV (As := []) (rest := []) ⟨hx, hb, hml, hown, hts⟩ (c_X4_keepOrder l dC dI cyI s.heap.size qs qsm qst sc se sk sn sfm sft) (cwV 0 hts (gBV b_963 b_964 b_965 b_22 b_966) rfl rfl rfl (by decide +kernel) ⟨Nat.le_of_ble_eq_true rfl, Nat.le_of_ble_eq_true rfl⟩) (prm_v eX_ok he hS hP hD hK (va_free (wc := [(qs, .inr (4, [.ref qsm, .ref qst, .int sc, .int se, .int sk, .int sn])), (qsm, .inl (cyI, 26, .inl sfm)), (qst, .inl (cyI, 26, .inl sft))]) hD hS hA [0, 1, 2] rfl) 0 rfl rfl rfl) rfl rfl hl.1 rfl (lv_room (Nat.le_of_ble_eq_true rfl)) dX4_acceptsBehindNumber_29 ⟨Nat.le_of_ble_eq_true rfl, Nat.le_of_ble_eq_true rfl⟩) hP hD hS hA [0, 1, 2] [] rfl rfl (by decide) (by decide) (fun r_5 u_4 H locs hw hP hD hS => ?_)
        obtain ⟨hu_4, rfl, hbu_4⟩ := hw
        have hE := hE.trans (spLet_eq hu_4)
        have hP : va_P (dC, dI) vwCl [(qs, .inr (4, [.ref qsm, .ref qst, .int (u_4.2.1), .int (u_4.2.2.1), .int (u_4.2.2.2.1), .int (u_4.2.2.2.2.1)])), (qsm, .inl (cyI, 26, .inl (u_4.2.2.2.2.2.1))), (qst, .inl (cyI, 26, .inl (u_4.2.2.2.2.2.2)))] H := hP
        have hD : va_D A [(qs, .inr (4, [.ref qsm, .ref qst, .int (u_4.2.1), .int (u_4.2.2.1), .int (u_4.2.2.2.1), .int (u_4.2.2.2.2.1)])), (qsm, .inl (cyI, 26, .inl (u_4.2.2.2.2.2.1))), (qst, .inl (cyI, 26, .inl (u_4.2.2.2.2.2.2)))] := hD
        refine lv_if_eq (tgt := 39) hx hb dX4_acceptsBehindNumber_32 (by decide) (fun c_6 => ?_) (fun c_6 => ?_)
        ·
          have hE := hE.trans (if_pos c_6)
          refine lv_iconst (v := 0) hx hb dX4_acceptsBehindNumber_39 (by decide) ?_
          exact W.zret (v := (0 : Int32)) hx hb hr rfl (fun t h9 hW => ⟨⟨(0 : Int32), (((0 : Int32), (u_4.2.1), (u_4.2.2.1), (u_4.2.2.2.1), (u_4.2.2.2.2.1), (u_4.2.2.2.2.2.1), (u_4.2.2.2.2.2.2)) : Int32 × Int32 × Int32 × Int32 × Int32 × (Nat → Int32) × (Nat → Int32)), rfl, ⟨hE.symm, rfl, (by decide)⟩, by rw [h9]; exact hP, hD⟩, hS.F h9⟩) hS.2.2 dX4_acceptsBehindNumber_40
        ·
          have hE := hE.trans (if_neg c_6)
          refine lv_iconst (v := 1) hx hb dX4_acceptsBehindNumber_35 (by decide) ?_
          refine lv_goto (tgt := 40) hx hb dX4_acceptsBehindNumber_36 (by decide) ?_
          exact W.zret (v := (1 : Int32)) hx hb hr rfl (fun t h9 hW => ⟨⟨(1 : Int32), (((1 : Int32), (u_4.2.1), (u_4.2.2.1), (u_4.2.2.2.1), (u_4.2.2.2.2.1), (u_4.2.2.2.2.2.1), (u_4.2.2.2.2.2.2)) : Int32 × Int32 × Int32 × Int32 × Int32 × (Nat → Int32) × (Nat → Int32)), rfl, ⟨hE.symm, rfl, (by decide)⟩, by rw [h9]; exact hP, hD⟩, hS.F h9⟩) hS.2.2 dX4_acceptsBehindNumber_40
    ·
      have hE := hE.trans (if_pos c_2)
      refine lv_aload_n hx hb dX4_acceptsBehindNumber_15 rfl (lv_at hl 0 rfl) ?_
      refine lv_iconst (v := 4) hx hb dX4_acceptsBehindNumber_16 (by decide) ?_
      refine va_put (D := (dC, dI)) (ci := 4) (v := .int (4 : Int32)) (ty := .int) (C := RX4) (T := TX4) (N := 6) hx hb hts i_X4 tyX4 tyX4_ok nmX4 hown hK hP hD hS 0 rfl rfl 3 (by decide) w_1 (fun _ h9 => h9) rfl (by decide +kernel) (rfl) (rfl) (Nat.le_of_ble_eq_true rfl) dX4_acceptsBehindNumber_17 (fun H locs hP hD hS => ?_)
      have hP : va_P (dC, dI) vwCl [(qs, .inr (4, [.ref qsm, .ref qst, .int sc, .int (4 : Int32), .int sk, .int sn])), (qsm, .inl (cyI, 26, .inl sfm)), (qst, .inl (cyI, 26, .inl sft))] H := hP
      have hD : va_D A [(qs, .inr (4, [.ref qsm, .ref qst, .int sc, .int (4 : Int32), .int sk, .int sn])), (qsm, .inl (cyI, 26, .inl sfm)), (qst, .inl (cyI, 26, .inl sft))] := hD
      refine lv_iconst (v := 1) hx hb dX4_acceptsBehindNumber_20 (by decide) ?_
      exact W.zret (v := (1 : Int32)) hx hb hr rfl (fun t h9 hW => ⟨⟨(1 : Int32), (((1 : Int32), sc, (4 : Int32), sk, sn, sfm, sft) : Int32 × Int32 × Int32 × Int32 × Int32 × (Nat → Int32) × (Nat → Int32)), rfl, ⟨hE.symm, rfl, (by decide)⟩, by rw [h9]; exact hP, hD⟩, hS.F h9⟩) hS.2.2 dX4_acceptsBehindNumber_21
  ·
    have hE := hE.trans (if_pos c_1)
    refine lv_iconst (v := 0) hx hb dX4_acceptsBehindNumber_7 (by decide) ?_
    exact W.zret (v := (0 : Int32)) hx hb hr rfl (fun t h9 hW => ⟨⟨(0 : Int32), (((0 : Int32), sc, se, sk, sn, sfm, sft) : Int32 × Int32 × Int32 × Int32 × Int32 × (Nat → Int32) × (Nat → Int32)), rfl, ⟨hE.symm, rfl, (by decide)⟩, by rw [h9]; exact hP, hD⟩, hS.F h9⟩) hS.2.2 dX4_acceptsBehindNumber_8
def x_X4_accepts (sc : Int32) (se : Int32) (sk : Int32) (sn : Int32) (sfm : Nat → Int32) (sft : Nat → Int32) (ch : Int32) : Int32 × Int32 × Int32 × Int32 × Int32 × (Nat → Int32) × (Nat → Int32) :=
  if se = 0 then (if ch = (32 : Int32) then (((1 : Int32), sc, se, sk, sn, sfm, sft)) else (spLet (x_X4_acceptsLetter sc se sk sn sfm sft ch) (fun u_3 => if (u_3.1) = 0 then (((0 : Int32), (u_3.2.1), (u_3.2.2.1), (u_3.2.2.2.1), (u_3.2.2.2.2.1), (u_3.2.2.2.2.2.1), (u_3.2.2.2.2.2.2))) else (((1 : Int32), (u_3.2.1), (u_3.2.2.1), (u_3.2.2.2.1), (u_3.2.2.2.2.1), (u_3.2.2.2.2.2.1), (u_3.2.2.2.2.2.2)))))) else (if se = 1 then (if ch = (32 : Int32) then (((1 : Int32), sc, se, sk, sn, sfm, sft)) else (spLet (x_X4_acceptsSign sc se sk sn sfm sft ch) (fun u_8 => if (u_8.1) = 0 then (((0 : Int32), (u_8.2.1), (u_8.2.2.1), (u_8.2.2.2.1), (u_8.2.2.2.2.1), (u_8.2.2.2.2.2.1), (u_8.2.2.2.2.2.2))) else (((1 : Int32), (u_8.2.1), (u_8.2.2.1), (u_8.2.2.2.1), (u_8.2.2.2.2.1), (u_8.2.2.2.2.2.1), (u_8.2.2.2.2.2.2)))))) else (if se = 2 then (if ch = (32 : Int32) then (((1 : Int32), sc, se, sk, sn, sfm, sft)) else (spLet (x_X4_acceptsDigit sc se sk sn sfm sft ch (3 : Int32)) (fun u_13 => if (u_13.1) = 0 then (((0 : Int32), (u_13.2.1), (u_13.2.2.1), (u_13.2.2.2.1), (u_13.2.2.2.2.1), (u_13.2.2.2.2.2.1), (u_13.2.2.2.2.2.2))) else (((1 : Int32), (u_13.2.1), (u_13.2.2.1), (u_13.2.2.2.1), (u_13.2.2.2.2.1), (u_13.2.2.2.2.2.1), (u_13.2.2.2.2.2.2)))))) else (if se = 3 then (spLet (x_X4_acceptsDigit sc se sk sn sfm sft ch (4 : Int32)) (fun u_17 => if (u_17.1) = 0 then (spLet (x_X4_acceptsBehindNumber (u_17.2.1) (u_17.2.2.1) (u_17.2.2.2.1) (u_17.2.2.2.2.1) (u_17.2.2.2.2.2.1) (u_17.2.2.2.2.2.2) ch) (fun u_20 => if (u_20.1) = 0 then (((0 : Int32), (u_20.2.1), (u_20.2.2.1), (u_20.2.2.2.1), (u_20.2.2.2.2.1), (u_20.2.2.2.2.2.1), (u_20.2.2.2.2.2.2))) else (((1 : Int32), (u_20.2.1), (u_20.2.2.1), (u_20.2.2.2.1), (u_20.2.2.2.2.1), (u_20.2.2.2.2.2.1), (u_20.2.2.2.2.2.2))))) else (((1 : Int32), (u_17.2.1), (u_17.2.2.1), (u_17.2.2.2.1), (u_17.2.2.2.2.1), (u_17.2.2.2.2.2.1), (u_17.2.2.2.2.2.2))))) else (spLet (x_X4_acceptsBehindNumber sc se sk sn sfm sft ch) (fun u_23 => ((u_23.1), (u_23.2.1), (u_23.2.2.1), (u_23.2.2.2.1), (u_23.2.2.2.2.1), (u_23.2.2.2.2.2.1), (u_23.2.2.2.2.2.2)))))))
set_option maxHeartbeats 1000000 in
set_option maxRecDepth 100000 in
theorem c_X4_accepts (l : Launch) (dC : Nat → ClassId) (dI : Nat → Nat → Nat) (cyI : ClassId) (sz : Nat) (qs : Nat) (qsm : Nat) (qst : Nat) (sc : Int32) (se : Int32) (sk : Int32) (sn : Int32) (sfm : Nat → Int32) (sft : Nat → Int32) (ch : Int32) : Met l yX4_accepts wqX4_accepts ({ frames := 2, cells := 0, slots := 0, locals := 41 } : Room) (va_Pc [.ref qs, .int ch] (pC (dC, dI) [(qs, .inr (4, [.ref qsm, .ref qst, .int sc, .int se, .int sk, .int sn])), (qsm, .inl (cyI, 26, .inl sfm)), (qst, .inl (cyI, 26, .inl sft))] [(cyI, .int)] eX sz)) (va_Qi (fun (r : Int32) (u : Int32 × Int32 × Int32 × Int32 × Int32 × (Nat → Int32) × (Nat → Int32)) => u = (x_X4_accepts sc se sk sn sfm sft ch) ∧ r = u.1 ∧ (r = 0 ∨ r = 1)) (fun (u : Int32 × Int32 × Int32 × Int32 × Int32 × (Nat → Int32) × (Nat → Int32)) t => va_P (dC, dI) vwCl [(qs, .inr (4, [.ref qsm, .ref qst, .int (u.2.1), .int (u.2.2.1), .int (u.2.2.2.1), .int (u.2.2.2.2.1)])), (qsm, .inl (cyI, 26, .inl (u.2.2.2.2.2.1))), (qst, .inl (cyI, 26, .inl (u.2.2.2.2.2.2)))] t.heap ∧ va_D (va_A [(qs, .inr (4, [.ref qsm, .ref qst, .int sc, .int se, .int sk, .int sn])), (qsm, .inl (cyI, 26, .inl sfm)), (qst, .inl (cyI, 26, .inl sft))] sz) [(qs, .inr (4, [.ref qsm, .ref qst, .int (u.2.1), .int (u.2.2.1), .int (u.2.2.2.1), .int (u.2.2.2.2.1)])), (qsm, .inl (cyI, 26, .inl (u.2.2.2.2.2.1))), (qst, .inl (cyI, 26, .inl (u.2.2.2.2.2.2)))]) (va_A [(qs, .inr (4, [.ref qsm, .ref qst, .int sc, .int se, .int sk, .int sn])), (qsm, .inl (cyI, 26, .inl sfm)), (qst, .inl (cyI, 26, .inl sft))] sz)) 0 0 (va_A [(qs, .inr (4, [.ref qsm, .ref qst, .int sc, .int se, .int sk, .int sn])), (qsm, .inl (cyI, 26, .inl sfm)), (qst, .inl (cyI, 26, .inl sft))] sz) := by
  refine Met.ofW (cc := cX4_accepts) (maxL := 2) (ret := (some .boolean)) (by decide) rfl ?_
  intro p e s m args below meth c s₁ B hml hv
  obtain ⟨rfl, hsz, hP, hK, hD0, he⟩ := hv
  have hx := B.exec
  have hb := B.bytes
  have hr := B.returns
  have hts := atoms_spec (ws := wqX4_accepts) B.pre
  have hown : s.vm.findClass RX4 = some m.cls := findClass_of_methodNamed B.named
  have hlocks := B.notSynchronized
  have w_0 := hts (Cond.fieldLink RX4 22 "CraneLimiter$Script" "expected" "I") (List.mem_cons_of_mem _ b_940)
  have i_X4 : ∀ w ∈ u_ws RX4 TX4 6, w ∈ wqX4_accepts := fun w h => List.mem_cons_of_mem _ (bX4 w h)
  subst hsz
  have hD := hD0.self (sz := s.heap.size)
  generalize hAe : va_A [(qs, .inr (4, [.ref qsm, .ref qst, .int sc, .int se, .int sk, .int sn])), (qsm, .inl (cyI, 26, .inl sfm)), (qst, .inl (cyI, 26, .inl sft))] s.heap.size = A at hD he ⊢
  have hA : ∀ q : Nat, s.heap.size ≤ q → A q := fun q h => by rw [← hAe]; exact Or.inr h
  have hS : va_S A s.heap s.heap [] := va_S.rf
  have hP : va_P (dC, dI) vwCl [(qs, .inr (4, [.ref qsm, .ref qst, .int sc, .int se, .int sk, .int sn])), (qsm, .inl (cyI, 26, .inl sfm)), (qst, .inl (cyI, 26, .inl sft))] s.heap := hP
  have hl := lv_entry ([.ref qs, .int ch] : List Value) (n := 2) (Nat.le_of_ble_eq_true rfl)
  rw [lg_entry_eq]
  generalize (lg_sl ([.ref qs, .int ch] : List Value) ++ List.replicate (2 - (lg_sl ([.ref qs, .int ch] : List Value)).length) Slot.unset).toArray = ls at hl ⊢
  have hl : lv_has ls 2 [(0, .ref qs), (1, .int ch)] := hl
  have hE : x_X4_accepts sc se sk sn sfm sft ch = x_X4_accepts sc se sk sn sfm sft ch := rfl
  refine lv_aload_n hx hb dX4_accepts_0 rfl (lv_at hl 0 rfl) ?_
  refine va_get (D := (dC, dI)) (ci := 4) (v := .int se) (C := RX4) (T := TX4) (N := 6) hx hb hts i_X4 hown hK hP 0 rfl rfl 3 (by decide) w_0 (fun _ h9 => h9) rfl dX4_accepts_1 ?_
  by_cases c_1 : se = 0
  ·
    have hE := hE.trans (if_pos c_1)
    refine lv_tableIn (tgt := 36) (off := 32) hx hb dX4_accepts_4 (by rw [c_1]; decide) (by rw [c_1]; decide) (by rw [c_1]; rfl) (by decide) ?_
    refine lv_iload_n hx hb dX4_accepts_36 rfl (lv_at hl 1 rfl) ?_
    refine lv_bipush (v := 32) hx hb dX4_accepts_37 (by decide) ?_
    refine lv_icmp_eq (tgt := 50) hx hb dX4_accepts_39 (by decide) (fun c_2 => ?_) (fun c_2 => ?_)
    ·
      have hE := hE.trans (if_pos c_2)
      refine lv_iconst (v := 1) hx hb dX4_accepts_50 (by decide) ?_
      refine lv_goto (tgt := 55) hx hb dX4_accepts_51 (by decide) ?_
      exact W.zret (v := (1 : Int32)) hx hb hr rfl (fun t h9 hW => ⟨⟨(1 : Int32), (((1 : Int32), sc, se, sk, sn, sfm, sft) : Int32 × Int32 × Int32 × Int32 × Int32 × (Nat → Int32) × (Nat → Int32)), rfl, ⟨hE.symm, rfl, (by decide)⟩, by rw [h9]; exact hP, hD⟩, hS.F h9⟩) hS.2.2 dX4_accepts_55
    ·
      have hE := hE.trans (if_neg c_2)
      refine lv_aload_n hx hb dX4_accepts_42 rfl (lv_at hl 0 rfl) ?_
      refine lv_iload_n hx hb dX4_accepts_43 rfl (lv_at hl 1 rfl) ?_
      refine mj_i (wr := []) (va_runV (As := [.int ch]) (rest := []) ⟨hx, hb, hml, hown, hts⟩ (c_X4_acceptsLetter l dC dI cyI s.heap.size qs qsm qst sc se sk sn sfm sft ch) (cwV 1 hts (gBV b_945 b_946 b_947 b_22 b_948) rfl rfl rfl (by decide +kernel) ⟨Nat.le_of_ble_eq_true rfl, Nat.le_of_ble_eq_true rfl⟩) (prm_v eX_ok he hS hP hD hK (va_free (wc := [(qs, .inr (4, [.ref qsm, .ref qst, .int sc, .int se, .int sk, .int sn])), (qsm, .inl (cyI, 26, .inl sfm)), (qst, .inl (cyI, 26, .inl sft))]) hD hS hA [0, 1, 2] rfl) 0 rfl rfl rfl) rfl rfl hl.1 rfl (lv_room (Nat.le_of_ble_eq_true rfl)) dX4_accepts_44 ⟨Nat.le_of_ble_eq_true rfl, Nat.le_of_ble_eq_true rfl⟩) hP hD hS hA [0, 1, 2] [] rfl rfl (by decide) (by decide) (fun r_4 u_3 H locs hw hP hD hS => ?_)
      obtain ⟨hu_3, rfl, hbu_3⟩ := hw
      have hE := hE.trans (spLet_eq hu_3)
      have hP : va_P (dC, dI) vwCl [(qs, .inr (4, [.ref qsm, .ref qst, .int (u_3.2.1), .int (u_3.2.2.1), .int (u_3.2.2.2.1), .int (u_3.2.2.2.2.1)])), (qsm, .inl (cyI, 26, .inl (u_3.2.2.2.2.2.1))), (qst, .inl (cyI, 26, .inl (u_3.2.2.2.2.2.2)))] H := hP
      have hD : va_D A [(qs, .inr (4, [.ref qsm, .ref qst, .int (u_3.2.1), .int (u_3.2.2.1), .int (u_3.2.2.2.1), .int (u_3.2.2.2.2.1)])), (qsm, .inl (cyI, 26, .inl (u_3.2.2.2.2.2.1))), (qst, .inl (cyI, 26, .inl (u_3.2.2.2.2.2.2)))] := hD
      refine lv_if_eq (tgt := 54) hx hb dX4_accepts_47 (by decide) (fun c_5 => ?_) (fun c_5 => ?_)
      ·
        have hE := hE.trans (if_pos c_5)
        refine lv_iconst (v := 0) hx hb dX4_accepts_54 (by decide) ?_
        exact W.zret (v := (0 : Int32)) hx hb hr rfl (fun t h9 hW => ⟨⟨(0 : Int32), (((0 : Int32), (u_3.2.1), (u_3.2.2.1), (u_3.2.2.2.1), (u_3.2.2.2.2.1), (u_3.2.2.2.2.2.1), (u_3.2.2.2.2.2.2)) : Int32 × Int32 × Int32 × Int32 × Int32 × (Nat → Int32) × (Nat → Int32)), rfl, ⟨hE.symm, rfl, (by decide)⟩, by rw [h9]; exact hP, hD⟩, hS.F h9⟩) hS.2.2 dX4_accepts_55
      ·
        have hE := hE.trans (if_neg c_5)
        refine lv_iconst (v := 1) hx hb dX4_accepts_50 (by decide) ?_
        refine lv_goto (tgt := 55) hx hb dX4_accepts_51 (by decide) ?_
        exact W.zret (v := (1 : Int32)) hx hb hr rfl (fun t h9 hW => ⟨⟨(1 : Int32), (((1 : Int32), (u_3.2.1), (u_3.2.2.1), (u_3.2.2.2.1), (u_3.2.2.2.2.1), (u_3.2.2.2.2.2.1), (u_3.2.2.2.2.2.2)) : Int32 × Int32 × Int32 × Int32 × Int32 × (Nat → Int32) × (Nat → Int32)), rfl, ⟨hE.symm, rfl, (by decide)⟩, by rw [h9]; exact hP, hD⟩, hS.F h9⟩) hS.2.2 dX4_accepts_55
  ·
    have hE := hE.trans (if_neg c_1)
    by_cases c_6 : se = 1
    ·
      have hE := hE.trans (if_pos c_6)
      refine lv_tableIn (tgt := 56) (off := 52) hx hb dX4_accepts_4 (by rw [c_6]; decide) (by rw [c_6]; decide) (by rw [c_6]; rfl) (by decide) ?_
      refine lv_iload_n hx hb dX4_accepts_56 rfl (lv_at hl 1 rfl) ?_
      refine lv_bipush (v := 32) hx hb dX4_accepts_57 (by decide) ?_
      refine lv_icmp_eq (tgt := 70) hx hb dX4_accepts_59 (by decide) (fun c_7 => ?_) (fun c_7 => ?_)
      ·
        have hE := hE.trans (if_pos c_7)
        refine lv_iconst (v := 1) hx hb dX4_accepts_70 (by decide) ?_
        refine lv_goto (tgt := 75) hx hb dX4_accepts_71 (by decide) ?_
        exact W.zret (v := (1 : Int32)) hx hb hr rfl (fun t h9 hW => ⟨⟨(1 : Int32), (((1 : Int32), sc, se, sk, sn, sfm, sft) : Int32 × Int32 × Int32 × Int32 × Int32 × (Nat → Int32) × (Nat → Int32)), rfl, ⟨hE.symm, rfl, (by decide)⟩, by rw [h9]; exact hP, hD⟩, hS.F h9⟩) hS.2.2 dX4_accepts_75
      ·
        have hE := hE.trans (if_neg c_7)
        refine lv_aload_n hx hb dX4_accepts_62 rfl (lv_at hl 0 rfl) ?_
        refine lv_iload_n hx hb dX4_accepts_63 rfl (lv_at hl 1 rfl) ?_
        refine mj_i (wr := []) (va_runV (As := [.int ch]) (rest := []) ⟨hx, hb, hml, hown, hts⟩ (c_X4_acceptsSign l dC dI cyI s.heap.size qs qsm qst sc se sk sn sfm sft ch) (cwV 1 hts (gBV b_951 b_952 b_953 b_22 b_954) rfl rfl rfl (by decide +kernel) ⟨Nat.le_of_ble_eq_true rfl, Nat.le_of_ble_eq_true rfl⟩) (prm_v eX_ok he hS hP hD hK (va_free (wc := [(qs, .inr (4, [.ref qsm, .ref qst, .int sc, .int se, .int sk, .int sn])), (qsm, .inl (cyI, 26, .inl sfm)), (qst, .inl (cyI, 26, .inl sft))]) hD hS hA [0, 1, 2] rfl) 0 rfl rfl rfl) rfl rfl hl.1 rfl (lv_room (Nat.le_of_ble_eq_true rfl)) dX4_accepts_64 ⟨Nat.le_of_ble_eq_true rfl, Nat.le_of_ble_eq_true rfl⟩) hP hD hS hA [0, 1, 2] [] rfl rfl (by decide) (by decide) (fun r_9 u_8 H locs hw hP hD hS => ?_)
        obtain ⟨hu_8, rfl, hbu_8⟩ := hw
        have hE := hE.trans (spLet_eq hu_8)
        have hP : va_P (dC, dI) vwCl [(qs, .inr (4, [.ref qsm, .ref qst, .int (u_8.2.1), .int (u_8.2.2.1), .int (u_8.2.2.2.1), .int (u_8.2.2.2.2.1)])), (qsm, .inl (cyI, 26, .inl (u_8.2.2.2.2.2.1))), (qst, .inl (cyI, 26, .inl (u_8.2.2.2.2.2.2)))] H := hP
        have hD : va_D A [(qs, .inr (4, [.ref qsm, .ref qst, .int (u_8.2.1), .int (u_8.2.2.1), .int (u_8.2.2.2.1), .int (u_8.2.2.2.2.1)])), (qsm, .inl (cyI, 26, .inl (u_8.2.2.2.2.2.1))), (qst, .inl (cyI, 26, .inl (u_8.2.2.2.2.2.2)))] := hD
        refine lv_if_eq (tgt := 74) hx hb dX4_accepts_67 (by decide) (fun c_10 => ?_) (fun c_10 => ?_)
        ·
          have hE := hE.trans (if_pos c_10)
          refine lv_iconst (v := 0) hx hb dX4_accepts_74 (by decide) ?_
          exact W.zret (v := (0 : Int32)) hx hb hr rfl (fun t h9 hW => ⟨⟨(0 : Int32), (((0 : Int32), (u_8.2.1), (u_8.2.2.1), (u_8.2.2.2.1), (u_8.2.2.2.2.1), (u_8.2.2.2.2.2.1), (u_8.2.2.2.2.2.2)) : Int32 × Int32 × Int32 × Int32 × Int32 × (Nat → Int32) × (Nat → Int32)), rfl, ⟨hE.symm, rfl, (by decide)⟩, by rw [h9]; exact hP, hD⟩, hS.F h9⟩) hS.2.2 dX4_accepts_75
        ·
          have hE := hE.trans (if_neg c_10)
          refine lv_iconst (v := 1) hx hb dX4_accepts_70 (by decide) ?_
          refine lv_goto (tgt := 75) hx hb dX4_accepts_71 (by decide) ?_
          exact W.zret (v := (1 : Int32)) hx hb hr rfl (fun t h9 hW => ⟨⟨(1 : Int32), (((1 : Int32), (u_8.2.1), (u_8.2.2.1), (u_8.2.2.2.1), (u_8.2.2.2.2.1), (u_8.2.2.2.2.2.1), (u_8.2.2.2.2.2.2)) : Int32 × Int32 × Int32 × Int32 × Int32 × (Nat → Int32) × (Nat → Int32)), rfl, ⟨hE.symm, rfl, (by decide)⟩, by rw [h9]; exact hP, hD⟩, hS.F h9⟩) hS.2.2 dX4_accepts_75
    ·
      have hE := hE.trans (if_neg c_6)
      by_cases c_11 : se = 2
      ·
        have hE := hE.trans (if_pos c_11)
        refine lv_tableIn (tgt := 76) (off := 72) hx hb dX4_accepts_4 (by rw [c_11]; decide) (by rw [c_11]; decide) (by rw [c_11]; rfl) (by decide) ?_
        refine lv_iload_n hx hb dX4_accepts_76 rfl (lv_at hl 1 rfl) ?_
        refine lv_bipush (v := 32) hx hb dX4_accepts_77 (by decide) ?_
        refine lv_icmp_eq (tgt := 91) hx hb dX4_accepts_79 (by decide) (fun c_12 => ?_) (fun c_12 => ?_)
        ·
          have hE := hE.trans (if_pos c_12)
          refine lv_iconst (v := 1) hx hb dX4_accepts_91 (by decide) ?_
          refine lv_goto (tgt := 96) hx hb dX4_accepts_92 (by decide) ?_
          exact W.zret (v := (1 : Int32)) hx hb hr rfl (fun t h9 hW => ⟨⟨(1 : Int32), (((1 : Int32), sc, se, sk, sn, sfm, sft) : Int32 × Int32 × Int32 × Int32 × Int32 × (Nat → Int32) × (Nat → Int32)), rfl, ⟨hE.symm, rfl, (by decide)⟩, by rw [h9]; exact hP, hD⟩, hS.F h9⟩) hS.2.2 dX4_accepts_96
        ·
          have hE := hE.trans (if_neg c_12)
          refine lv_aload_n hx hb dX4_accepts_82 rfl (lv_at hl 0 rfl) ?_
          refine lv_iload_n hx hb dX4_accepts_83 rfl (lv_at hl 1 rfl) ?_
          refine lv_iconst (v := 3) hx hb dX4_accepts_84 (by decide) ?_
          refine mj_i (wr := []) (va_runV (As := [.int ch, .int (3 : Int32)]) (rest := []) ⟨hx, hb, hml, hown, hts⟩ (c_X4_acceptsDigit l dC dI cyI s.heap.size qs qsm qst sc se sk sn sfm sft ch (3 : Int32)) (cwV 2 hts (gBV b_955 b_956 b_957 b_22 b_958) rfl rfl rfl (by decide +kernel) ⟨Nat.le_of_ble_eq_true rfl, Nat.le_of_ble_eq_true rfl⟩) (prm_v eX_ok he hS hP hD hK (va_free (wc := [(qs, .inr (4, [.ref qsm, .ref qst, .int sc, .int se, .int sk, .int sn])), (qsm, .inl (cyI, 26, .inl sfm)), (qst, .inl (cyI, 26, .inl sft))]) hD hS hA [0, 1, 2] rfl) 0 rfl rfl rfl) rfl rfl hl.1 rfl (lv_room (Nat.le_of_ble_eq_true rfl)) dX4_accepts_85 ⟨Nat.le_of_ble_eq_true rfl, Nat.le_of_ble_eq_true rfl⟩) hP hD hS hA [0, 1, 2] [] rfl rfl (by decide) (by decide) (fun r_14 u_13 H locs hw hP hD hS => ?_)
          obtain ⟨hu_13, rfl, hbu_13⟩ := hw
          have hE := hE.trans (spLet_eq hu_13)
          have hP : va_P (dC, dI) vwCl [(qs, .inr (4, [.ref qsm, .ref qst, .int (u_13.2.1), .int (u_13.2.2.1), .int (u_13.2.2.2.1), .int (u_13.2.2.2.2.1)])), (qsm, .inl (cyI, 26, .inl (u_13.2.2.2.2.2.1))), (qst, .inl (cyI, 26, .inl (u_13.2.2.2.2.2.2)))] H := hP
          have hD : va_D A [(qs, .inr (4, [.ref qsm, .ref qst, .int (u_13.2.1), .int (u_13.2.2.1), .int (u_13.2.2.2.1), .int (u_13.2.2.2.2.1)])), (qsm, .inl (cyI, 26, .inl (u_13.2.2.2.2.2.1))), (qst, .inl (cyI, 26, .inl (u_13.2.2.2.2.2.2)))] := hD
          refine lv_if_eq (tgt := 95) hx hb dX4_accepts_88 (by decide) (fun c_15 => ?_) (fun c_15 => ?_)
          ·
            have hE := hE.trans (if_pos c_15)
            refine lv_iconst (v := 0) hx hb dX4_accepts_95 (by decide) ?_
            exact W.zret (v := (0 : Int32)) hx hb hr rfl (fun t h9 hW => ⟨⟨(0 : Int32), (((0 : Int32), (u_13.2.1), (u_13.2.2.1), (u_13.2.2.2.1), (u_13.2.2.2.2.1), (u_13.2.2.2.2.2.1), (u_13.2.2.2.2.2.2)) : Int32 × Int32 × Int32 × Int32 × Int32 × (Nat → Int32) × (Nat → Int32)), rfl, ⟨hE.symm, rfl, (by decide)⟩, by rw [h9]; exact hP, hD⟩, hS.F h9⟩) hS.2.2 dX4_accepts_96
          ·
            have hE := hE.trans (if_neg c_15)
            refine lv_iconst (v := 1) hx hb dX4_accepts_91 (by decide) ?_
            refine lv_goto (tgt := 96) hx hb dX4_accepts_92 (by decide) ?_
            exact W.zret (v := (1 : Int32)) hx hb hr rfl (fun t h9 hW => ⟨⟨(1 : Int32), (((1 : Int32), (u_13.2.1), (u_13.2.2.1), (u_13.2.2.2.1), (u_13.2.2.2.2.1), (u_13.2.2.2.2.2.1), (u_13.2.2.2.2.2.2)) : Int32 × Int32 × Int32 × Int32 × Int32 × (Nat → Int32) × (Nat → Int32)), rfl, ⟨hE.symm, rfl, (by decide)⟩, by rw [h9]; exact hP, hD⟩, hS.F h9⟩) hS.2.2 dX4_accepts_96
      ·
        have hE := hE.trans (if_neg c_11)
        by_cases c_16 : se = 3
        ·
          have hE := hE.trans (if_pos c_16)
          refine lv_tableIn (tgt := 97) (off := 93) hx hb dX4_accepts_4 (by rw [c_16]; decide) (by rw [c_16]; decide) (by rw [c_16]; rfl) (by decide) ?_
          refine lv_aload_n hx hb dX4_accepts_97 rfl (lv_at hl 0 rfl) ?_
          refine lv_iload_n hx hb dX4_accepts_98 rfl (lv_at hl 1 rfl) ?_
          refine lv_iconst (v := 4) hx hb dX4_accepts_99 (by decide) ?_
          refine mj_i (wr := []) (va_runV (As := [.int ch, .int (4 : Int32)]) (rest := []) ⟨hx, hb, hml, hown, hts⟩ (c_X4_acceptsDigit l dC dI cyI s.heap.size qs qsm qst sc se sk sn sfm sft ch (4 : Int32)) (cwV 2 hts (gBV b_955 b_956 b_957 b_22 b_958) rfl rfl rfl (by decide +kernel) ⟨Nat.le_of_ble_eq_true rfl, Nat.le_of_ble_eq_true rfl⟩) (prm_v eX_ok he hS hP hD hK (va_free (wc := [(qs, .inr (4, [.ref qsm, .ref qst, .int sc, .int se, .int sk, .int sn])), (qsm, .inl (cyI, 26, .inl sfm)), (qst, .inl (cyI, 26, .inl sft))]) hD hS hA [0, 1, 2] rfl) 0 rfl rfl rfl) rfl rfl hl.1 rfl (lv_room (Nat.le_of_ble_eq_true rfl)) dX4_accepts_100 ⟨Nat.le_of_ble_eq_true rfl, Nat.le_of_ble_eq_true rfl⟩) hP hD hS hA [0, 1, 2] [] rfl rfl (by decide) (by decide) (fun r_18 u_17 H locs hw hP hD hS => ?_)
          obtain ⟨hu_17, rfl, hbu_17⟩ := hw
          have hE := hE.trans (spLet_eq hu_17)
          have hP : va_P (dC, dI) vwCl [(qs, .inr (4, [.ref qsm, .ref qst, .int (u_17.2.1), .int (u_17.2.2.1), .int (u_17.2.2.2.1), .int (u_17.2.2.2.2.1)])), (qsm, .inl (cyI, 26, .inl (u_17.2.2.2.2.2.1))), (qst, .inl (cyI, 26, .inl (u_17.2.2.2.2.2.2)))] H := hP
          have hD : va_D A [(qs, .inr (4, [.ref qsm, .ref qst, .int (u_17.2.1), .int (u_17.2.2.1), .int (u_17.2.2.2.1), .int (u_17.2.2.2.2.1)])), (qsm, .inl (cyI, 26, .inl (u_17.2.2.2.2.2.1))), (qst, .inl (cyI, 26, .inl (u_17.2.2.2.2.2.2)))] := hD
          refine lv_if_ne (tgt := 114) hx hb dX4_accepts_103 (by decide) (fun c_19 => ?_) (fun c_19 => ?_)
          ·
            have hE := hE.trans (if_neg c_19)
            refine lv_iconst (v := 1) hx hb dX4_accepts_114 (by decide) ?_
            refine lv_goto (tgt := 119) hx hb dX4_accepts_115 (by decide) ?_
            exact W.zret (v := (1 : Int32)) hx hb hr rfl (fun t h9 hW => ⟨⟨(1 : Int32), (((1 : Int32), (u_17.2.1), (u_17.2.2.1), (u_17.2.2.2.1), (u_17.2.2.2.2.1), (u_17.2.2.2.2.2.1), (u_17.2.2.2.2.2.2)) : Int32 × Int32 × Int32 × Int32 × Int32 × (Nat → Int32) × (Nat → Int32)), rfl, ⟨hE.symm, rfl, (by decide)⟩, by rw [h9]; exact hP, hD⟩, hS.F h9⟩) hS.2.2 dX4_accepts_119
          ·
            have hE := hE.trans (if_pos c_19)
            refine lv_aload_n hx hb dX4_accepts_106 rfl (lv_at hl 0 rfl) ?_
            refine lv_iload_n hx hb dX4_accepts_107 rfl (lv_at hl 1 rfl) ?_
            refine mj_i (wr := []) (va_runV (As := [.int ch]) (rest := []) ⟨hx, hb, hml, hown, hts⟩ (c_X4_acceptsBehindNumber l dC dI cyI H.size qs qsm qst (u_17.2.1) (u_17.2.2.1) (u_17.2.2.2.1) (u_17.2.2.2.2.1) (u_17.2.2.2.2.2.1) (u_17.2.2.2.2.2.2) ch) (cwV 1 hts (gBV b_959 b_960 b_961 b_22 b_962) rfl rfl rfl (by decide +kernel) ⟨Nat.le_of_ble_eq_true rfl, Nat.le_of_ble_eq_true rfl⟩) (prm_v eX_ok he hS hP hD hK (va_free (wc := [(qs, .inr (4, [.ref qsm, .ref qst, .int (u_17.2.1), .int (u_17.2.2.1), .int (u_17.2.2.2.1), .int (u_17.2.2.2.2.1)])), (qsm, .inl (cyI, 26, .inl (u_17.2.2.2.2.2.1))), (qst, .inl (cyI, 26, .inl (u_17.2.2.2.2.2.2)))]) hD hS hA [0, 1, 2] rfl) 0 rfl rfl rfl) rfl rfl hl.1 rfl (lv_room (Nat.le_of_ble_eq_true rfl)) dX4_accepts_108 ⟨Nat.le_of_ble_eq_true rfl, Nat.le_of_ble_eq_true rfl⟩) hP hD hS hA [0, 1, 2] [] rfl rfl (by decide) (by decide) (fun r_21 u_20 H locs hw hP hD hS => ?_)
            obtain ⟨hu_20, rfl, hbu_20⟩ := hw
            have hE := hE.trans (spLet_eq hu_20)
            have hP : va_P (dC, dI) vwCl [(qs, .inr (4, [.ref qsm, .ref qst, .int (u_20.2.1), .int (u_20.2.2.1), .int (u_20.2.2.2.1), .int (u_20.2.2.2.2.1)])), (qsm, .inl (cyI, 26, .inl (u_20.2.2.2.2.2.1))), (qst, .inl (cyI, 26, .inl (u_20.2.2.2.2.2.2)))] H := hP
            have hD : va_D A [(qs, .inr (4, [.ref qsm, .ref qst, .int (u_20.2.1), .int (u_20.2.2.1), .int (u_20.2.2.2.1), .int (u_20.2.2.2.2.1)])), (qsm, .inl (cyI, 26, .inl (u_20.2.2.2.2.2.1))), (qst, .inl (cyI, 26, .inl (u_20.2.2.2.2.2.2)))] := hD
            refine lv_if_eq (tgt := 118) hx hb dX4_accepts_111 (by decide) (fun c_22 => ?_) (fun c_22 => ?_)
            ·
              have hE := hE.trans (if_pos c_22)
              refine lv_iconst (v := 0) hx hb dX4_accepts_118 (by decide) ?_
              exact W.zret (v := (0 : Int32)) hx hb hr rfl (fun t h9 hW => ⟨⟨(0 : Int32), (((0 : Int32), (u_20.2.1), (u_20.2.2.1), (u_20.2.2.2.1), (u_20.2.2.2.2.1), (u_20.2.2.2.2.2.1), (u_20.2.2.2.2.2.2)) : Int32 × Int32 × Int32 × Int32 × Int32 × (Nat → Int32) × (Nat → Int32)), rfl, ⟨hE.symm, rfl, (by decide)⟩, by rw [h9]; exact hP, hD⟩, hS.F h9⟩) hS.2.2 dX4_accepts_119
            ·
              have hE := hE.trans (if_neg c_22)
              refine lv_iconst (v := 1) hx hb dX4_accepts_114 (by decide) ?_
              refine lv_goto (tgt := 119) hx hb dX4_accepts_115 (by decide) ?_
              exact W.zret (v := (1 : Int32)) hx hb hr rfl (fun t h9 hW => ⟨⟨(1 : Int32), (((1 : Int32), (u_20.2.1), (u_20.2.2.1), (u_20.2.2.2.1), (u_20.2.2.2.2.1), (u_20.2.2.2.2.2.1), (u_20.2.2.2.2.2.2)) : Int32 × Int32 × Int32 × Int32 × Int32 × (Nat → Int32) × (Nat → Int32)), rfl, ⟨hE.symm, rfl, (by decide)⟩, by rw [h9]; exact hP, hD⟩, hS.F h9⟩) hS.2.2 dX4_accepts_119
        ·
          have hE := hE.trans (if_neg c_16)
          refine lv_tableOut (tgt := 120) hx hb dX4_accepts_4 (by
              have n_c_1 : ¬ (se).toInt = 0 := lv_neT c_1 rfl
              have n_c_6 : ¬ (se).toInt = 1 := lv_neT c_6 rfl
              have n_c_11 : ¬ (se).toInt = 2 := lv_neT c_11 rfl
              have n_c_16 : ¬ (se).toInt = 3 := lv_neT c_16 rfl
              omega) (by decide) ?_
          refine lv_aload_n hx hb dX4_accepts_120 rfl (lv_at hl 0 rfl) ?_
          refine lv_iload_n hx hb dX4_accepts_121 rfl (lv_at hl 1 rfl) ?_
          refine mj_i (wr := []) (va_runV (As := [.int ch]) (rest := []) ⟨hx, hb, hml, hown, hts⟩ (c_X4_acceptsBehindNumber l dC dI cyI s.heap.size qs qsm qst sc se sk sn sfm sft ch) (cwV 1 hts (gBV b_959 b_960 b_961 b_22 b_962) rfl rfl rfl (by decide +kernel) ⟨Nat.le_of_ble_eq_true rfl, Nat.le_of_ble_eq_true rfl⟩) (prm_v eX_ok he hS hP hD hK (va_free (wc := [(qs, .inr (4, [.ref qsm, .ref qst, .int sc, .int se, .int sk, .int sn])), (qsm, .inl (cyI, 26, .inl sfm)), (qst, .inl (cyI, 26, .inl sft))]) hD hS hA [0, 1, 2] rfl) 0 rfl rfl rfl) rfl rfl hl.1 rfl (lv_room (Nat.le_of_ble_eq_true rfl)) dX4_accepts_122 ⟨Nat.le_of_ble_eq_true rfl, Nat.le_of_ble_eq_true rfl⟩) hP hD hS hA [0, 1, 2] [] rfl rfl (by decide) (by decide) (fun r_24 u_23 H locs hw hP hD hS => ?_)
          obtain ⟨hu_23, rfl, hbu_23⟩ := hw
          have hE := hE.trans (spLet_eq hu_23)
          have hP : va_P (dC, dI) vwCl [(qs, .inr (4, [.ref qsm, .ref qst, .int (u_23.2.1), .int (u_23.2.2.1), .int (u_23.2.2.2.1), .int (u_23.2.2.2.2.1)])), (qsm, .inl (cyI, 26, .inl (u_23.2.2.2.2.2.1))), (qst, .inl (cyI, 26, .inl (u_23.2.2.2.2.2.2)))] H := hP
          have hD : va_D A [(qs, .inr (4, [.ref qsm, .ref qst, .int (u_23.2.1), .int (u_23.2.2.1), .int (u_23.2.2.2.1), .int (u_23.2.2.2.2.1)])), (qsm, .inl (cyI, 26, .inl (u_23.2.2.2.2.2.1))), (qst, .inl (cyI, 26, .inl (u_23.2.2.2.2.2.2)))] := hD
          exact W.zret (v := (u_23.1)) hx hb hr (by rcases (show (u_23.1) = 0 ∨ (u_23.1) = 1 from (by assumption)) with h9 | h9 <;> rw [h9] <;> rfl) (fun t h9 hW => ⟨⟨(u_23.1), (((u_23.1), (u_23.2.1), (u_23.2.2.1), (u_23.2.2.2.1), (u_23.2.2.2.2.1), (u_23.2.2.2.2.2.1), (u_23.2.2.2.2.2.2)) : Int32 × Int32 × Int32 × Int32 × Int32 × (Nat → Int32) × (Nat → Int32)), rfl, ⟨hE.symm, rfl, (by assumption)⟩, by rw [h9]; exact hP, hD⟩, hS.F h9⟩) hS.2.2 dX4_accepts_125
def x_X4_read_j41 (tl : Int32) (w0_2_12 : Int32) (w0_3_12 : Int32) (w0_4_12 : Int32) (w0_5_12 : Int32) (w1_a_12 : Nat → Int32) (w2_a_12 : Nat → Int32) : Int32 × Int32 × Int32 × Int32 × Int32 × (Nat → Int32) × (Nat → Int32) :=
  if w0_3_12 = 0 then (((-1 : Int32), w0_2_12, w0_3_12, w0_4_12, w0_5_12, w1_a_12, w2_a_12)) else ((tl, w0_2_12, w0_3_12, w0_4_12, w0_5_12, w1_a_12, w2_a_12))
def x_X4_read_b12 (xf : Nat → Int32) (tl : Int32) (rec12 : Nat → Int32 → Int32 → Int32 → Int32 → (Nat → Int32) → (Nat → Int32) → (Int32 × Int32 × Int32 × Int32 × Int32 × (Nat → Int32) × (Nat → Int32))) : Nat → Int32 → Int32 → Int32 → Int32 → (Nat → Int32) → (Nat → Int32) → (Int32 × Int32 × Int32 × Int32 × Int32 × (Nat → Int32) × (Nat → Int32)) :=
  fun k3_12 w0_2_12 w0_3_12 w0_4_12 w0_5_12 w1_a_12 w2_a_12 => if tl.toNatClampNeg ≤ k3_12 then (x_X4_read_j41 tl w0_2_12 w0_3_12 w0_4_12 w0_5_12 w1_a_12 w2_a_12) else (if 80 ≤ k3_12 then (x_X4_read_j41 tl w0_2_12 w0_3_12 w0_4_12 w0_5_12 w1_a_12 w2_a_12) else (spLet (x_X4_accepts w0_2_12 w0_3_12 w0_4_12 w0_5_12 w1_a_12 w2_a_12 (xf (k3_12))) (fun u_4 => if (u_4.1) = 0 then (((nI k3_12), (u_4.2.1), (u_4.2.2.1), (u_4.2.2.2.1), (u_4.2.2.2.2.1), (u_4.2.2.2.2.2.1), (u_4.2.2.2.2.2.2))) else (rec12 (k3_12 + 1) (u_4.2.1) (u_4.2.2.1) (u_4.2.2.2.1) (u_4.2.2.2.2.1) (u_4.2.2.2.2.2.1) (u_4.2.2.2.2.2.2)))))
def x_X4_read (sk : Int32) (sn : Int32) (sfm : Nat → Int32) (sft : Nat → Int32) (xf : Nat → Int32) (tl : Int32) : Int32 × Int32 × Int32 × Int32 × Int32 × (Nat → Int32) × (Nat → Int32) :=
  spIter (fun _ _ _ _ _ _ _ => default) (x_X4_read_b12 xf tl) (tl.toNatClampNeg + 1) 0 (0 : Int32) (0 : Int32) sk sn sfm sft
set_option maxHeartbeats 1000000 in
set_option maxRecDepth 100000 in
theorem c_X4_read (l : Launch) (dC : Nat → ClassId) (dI : Nat → Nat → Nat) (cyI : ClassId) (sz : Nat) (qs : Nat) (qsm : Nat) (qst : Nat) (sc : Int32) (se : Int32) (sk : Int32) (sn : Int32) (sfm : Nat → Int32) (sft : Nat → Int32) (qx : Nat) (xf : Nat → Int32) (tl : Int32) (htl : tl = nI tl.toNatClampNeg) (ht80 : tl.toNatClampNeg ≤ 80) : Met l yX4_read wqX4_read ({ frames := 3, cells := 0, slots := 0, locals := 62 } : Room) (va_Pc [.ref qs, .ref qx, .int tl] (pC (dC, dI) [(qs, .inr (4, [.ref qsm, .ref qst, .int sc, .int se, .int sk, .int sn])), (qsm, .inl (cyI, 26, .inl sfm)), (qst, .inl (cyI, 26, .inl sft)), (qx, .inl (cyI, 80, .inl xf))] [(cyI, .int)] eX sz)) (va_Qi (fun (r : Int32) (u : Int32 × Int32 × Int32 × Int32 × Int32 × (Nat → Int32) × (Nat → Int32)) => u = (x_X4_read sk sn sfm sft xf tl) ∧ r = u.1) (fun (u : Int32 × Int32 × Int32 × Int32 × Int32 × (Nat → Int32) × (Nat → Int32)) t => va_P (dC, dI) vwCl [(qs, .inr (4, [.ref qsm, .ref qst, .int (u.2.1), .int (u.2.2.1), .int (u.2.2.2.1), .int (u.2.2.2.2.1)])), (qsm, .inl (cyI, 26, .inl (u.2.2.2.2.2.1))), (qst, .inl (cyI, 26, .inl (u.2.2.2.2.2.2))), (qx, .inl (cyI, 80, .inl xf))] t.heap ∧ va_D (va_A [(qs, .inr (4, [.ref qsm, .ref qst, .int sc, .int se, .int sk, .int sn])), (qsm, .inl (cyI, 26, .inl sfm)), (qst, .inl (cyI, 26, .inl sft)), (qx, .inl (cyI, 80, .inl xf))] sz) [(qs, .inr (4, [.ref qsm, .ref qst, .int (u.2.1), .int (u.2.2.1), .int (u.2.2.2.1), .int (u.2.2.2.2.1)])), (qsm, .inl (cyI, 26, .inl (u.2.2.2.2.2.1))), (qst, .inl (cyI, 26, .inl (u.2.2.2.2.2.2))), (qx, .inl (cyI, 80, .inl xf))]) (va_A [(qs, .inr (4, [.ref qsm, .ref qst, .int sc, .int se, .int sk, .int sn])), (qsm, .inl (cyI, 26, .inl sfm)), (qst, .inl (cyI, 26, .inl sft)), (qx, .inl (cyI, 80, .inl xf))] sz)) 0 0 (va_A [(qs, .inr (4, [.ref qsm, .ref qst, .int sc, .int se, .int sk, .int sn])), (qsm, .inl (cyI, 26, .inl sfm)), (qst, .inl (cyI, 26, .inl sft)), (qx, .inl (cyI, 80, .inl xf))] sz) := by
  refine Met.ofW (cc := cX4_read) (maxL := 4) (ret := (some .int)) (by decide) rfl ?_
  intro p e s m args below meth c s₁ B hml hv
  obtain ⟨rfl, hsz, hP, hK, hD0, he⟩ := hv
  have hx := B.exec
  have hb := B.bytes
  have hr := B.returns
  have hts := atoms_spec (ws := wqX4_read) B.pre
  have hown : s.vm.findClass RX4 = some m.cls := findClass_of_methodNamed B.named
  have hlocks := B.notSynchronized
  have w_0 := hts (Cond.fieldLink RX4 18 "CraneLimiter$Script" "count" "I") (List.mem_cons_of_mem _ b_939)
  have w_1 := hts (Cond.fieldLink RX4 22 "CraneLimiter$Script" "expected" "I") (List.mem_cons_of_mem _ b_940)
  have i_X4 : ∀ w ∈ u_ws RX4 TX4 6, w ∈ wqX4_read := fun w h => List.mem_cons_of_mem _ (bX4 w h)
  subst hsz
  have hD := hD0.self (sz := s.heap.size)
  generalize hAe : va_A [(qs, .inr (4, [.ref qsm, .ref qst, .int sc, .int se, .int sk, .int sn])), (qsm, .inl (cyI, 26, .inl sfm)), (qst, .inl (cyI, 26, .inl sft)), (qx, .inl (cyI, 80, .inl xf))] s.heap.size = A at hD he ⊢
  have hA : ∀ q : Nat, s.heap.size ≤ q → A q := fun q h => by rw [← hAe]; exact Or.inr h
  have hS : va_S A s.heap s.heap [] := va_S.rf
  have hP : va_P (dC, dI) vwCl [(qs, .inr (4, [.ref qsm, .ref qst, .int sc, .int se, .int sk, .int sn])), (qsm, .inl (cyI, 26, .inl sfm)), (qst, .inl (cyI, 26, .inl sft)), (qx, .inl (cyI, 80, .inl xf))] s.heap := hP
  have hl := lv_entry ([.ref qs, .ref qx, .int tl] : List Value) (n := 4) (Nat.le_of_ble_eq_true rfl)
  rw [lg_entry_eq]
  generalize (lg_sl ([.ref qs, .ref qx, .int tl] : List Value) ++ List.replicate (4 - (lg_sl ([.ref qs, .ref qx, .int tl] : List Value)).length) Slot.unset).toArray = ls at hl ⊢
  have hl : lv_has ls 4 [(0, .ref qs), (1, .ref qx), (2, .int tl)] := hl
  have hE : x_X4_read sk sn sfm sft xf tl = x_X4_read sk sn sfm sft xf tl := rfl
  refine lv_aload_n hx hb dX4_read_0 rfl (lv_at hl 0 rfl) ?_
  refine lv_iconst (v := 0) hx hb dX4_read_1 (by decide) ?_
  refine va_put (D := (dC, dI)) (ci := 4) (v := .int (0 : Int32)) (ty := .int) (C := RX4) (T := TX4) (N := 6) hx hb hts i_X4 tyX4 tyX4_ok nmX4 hown hK hP hD hS 0 rfl rfl 2 (by decide) w_0 (fun _ h9 => h9) rfl (by decide +kernel) (rfl) (rfl) (Nat.le_of_ble_eq_true rfl) dX4_read_2 (fun H locs hP hD hS => ?_)
  have hP : va_P (dC, dI) vwCl [(qs, .inr (4, [.ref qsm, .ref qst, .int (0 : Int32), .int se, .int sk, .int sn])), (qsm, .inl (cyI, 26, .inl sfm)), (qst, .inl (cyI, 26, .inl sft)), (qx, .inl (cyI, 80, .inl xf))] H := hP
  have hD : va_D A [(qs, .inr (4, [.ref qsm, .ref qst, .int (0 : Int32), .int se, .int sk, .int sn])), (qsm, .inl (cyI, 26, .inl sfm)), (qst, .inl (cyI, 26, .inl sft)), (qx, .inl (cyI, 80, .inl xf))] := hD
  refine lv_aload_n hx hb dX4_read_5 rfl (lv_at hl 0 rfl) ?_
  refine lv_iconst (v := 0) hx hb dX4_read_6 (by decide) ?_
  refine va_put (D := (dC, dI)) (ci := 4) (v := .int (0 : Int32)) (ty := .int) (C := RX4) (T := TX4) (N := 6) hx hb hts i_X4 tyX4 tyX4_ok nmX4 hown hK hP hD hS 0 rfl rfl 3 (by decide) w_1 (fun _ h9 => h9) rfl (by decide +kernel) (rfl) (rfl) (Nat.le_of_ble_eq_true rfl) dX4_read_7 (fun H locs hP hD hS => ?_)
  have hP : va_P (dC, dI) vwCl [(qs, .inr (4, [.ref qsm, .ref qst, .int (0 : Int32), .int (0 : Int32), .int sk, .int sn])), (qsm, .inl (cyI, 26, .inl sfm)), (qst, .inl (cyI, 26, .inl sft)), (qx, .inl (cyI, 80, .inl xf))] H := hP
  have hD : va_D A [(qs, .inr (4, [.ref qsm, .ref qst, .int (0 : Int32), .int (0 : Int32), .int sk, .int sn])), (qsm, .inl (cyI, 26, .inl sfm)), (qst, .inl (cyI, 26, .inl sft)), (qx, .inl (cyI, 80, .inl xf))] := hD
  refine lv_iconst (v := 0) hx hb dX4_read_10 (by decide) ?_
  refine lv_istore_n (lv' := [(3, .int (0 : Int32)), (0, .ref qs), (1, .ref qx), (2, .int tl)]) hx hb dX4_read_11 rfl hl (by decide) rfl (fun ls hl => ?_)
  have L12 : ∀ (n12 : Nat) (k3_12 : Nat) (w0_2_12 : Int32) (w0_3_12 : Int32) (w0_4_12 : Int32) (w0_5_12 : Int32) (w1_a_12 : Nat → Int32) (w2_a_12 : Nat → Int32) (hi : k3_12 ≤ tl.toNatClampNeg ∧ tl.toNatClampNeg < k3_12 + n12) (H : Heap) (locs : List Loc) (hP : va_P (dC, dI) vwCl [(qs, .inr (4, [.ref qsm, .ref qst, .int w0_2_12, .int w0_3_12, .int w0_4_12, .int w0_5_12])), (qsm, .inl (cyI, 26, .inl w1_a_12)), (qst, .inl (cyI, 26, .inl w2_a_12)), (qx, .inl (cyI, 80, .inl xf))] H) (hD : va_D A [(qs, .inr (4, [.ref qsm, .ref qst, .int w0_2_12, .int w0_3_12, .int w0_4_12, .int w0_5_12])), (qsm, .inl (cyI, 26, .inl w1_a_12)), (qst, .inl (cyI, 26, .inl w2_a_12)), (qx, .inl (cyI, 80, .inl xf))]) (hS : va_S A s.heap H locs) (ls : Array Slot) (hl : lv_has ls 4 [(0, .ref qs), (1, .ref qx), (2, .int tl), (3, .int (nI k3_12))]) (hE : (x_X4_read sk sn sfm sft xf tl) = spIter (fun _ _ _ _ _ _ _ => default) (x_X4_read_b12 xf tl) n12 k3_12 w0_2_12 w0_3_12 w0_4_12 w0_5_12 w1_a_12 w2_a_12), W p l e (headSpec wqX4_read ({ frames := 3, cells := 0, slots := 0, locals := 62 } : Room)).room s m ([.ref qs, .ref qx, .int tl] : List Value).toArray below meth c H locs 0 0 (MQ below (va_Qi (fun (r : Int32) (u : Int32 × Int32 × Int32 × Int32 × Int32 × (Nat → Int32) × (Nat → Int32)) => u = (x_X4_read sk sn sfm sft xf tl) ∧ r = u.1) (fun (u : Int32 × Int32 × Int32 × Int32 × Int32 × (Nat → Int32) × (Nat → Int32)) t => va_P (dC, dI) vwCl [(qs, .inr (4, [.ref qsm, .ref qst, .int (u.2.1), .int (u.2.2.1), .int (u.2.2.2.1), .int (u.2.2.2.2.1)])), (qsm, .inl (cyI, 26, .inl (u.2.2.2.2.2.1))), (qst, .inl (cyI, 26, .inl (u.2.2.2.2.2.2))), (qx, .inl (cyI, 80, .inl xf))] t.heap ∧ va_D A [(qs, .inr (4, [.ref qsm, .ref qst, .int (u.2.1), .int (u.2.2.1), .int (u.2.2.2.1), .int (u.2.2.2.2.1)])), (qsm, .inl (cyI, 26, .inl (u.2.2.2.2.2.1))), (qst, .inl (cyI, 26, .inl (u.2.2.2.2.2.2))), (qx, .inl (cyI, 80, .inl xf))]) A) ([.ref qs, .ref qx, .int tl] : List Value).toArray s 0 0 A) (F0 m 12 ls []) := by
    intro n12
    induction n12 with
    | zero =>
      intro k3_12 w0_2_12 w0_3_12 w0_4_12 w0_5_12 w1_a_12 w2_a_12 hi H locs hP hD hS ls hl hE
      exact absurd hi (by omega)
    | succ n12 ih12 =>
      intro k3_12 w0_2_12 w0_3_12 w0_4_12 w0_5_12 w1_a_12 w2_a_12 hi H locs hP hD hS ls hl hE
      have hE : (x_X4_read sk sn sfm sft xf tl) = x_X4_read_b12 xf tl (spIter (fun _ _ _ _ _ _ _ => default) (x_X4_read_b12 xf tl) n12) k3_12 w0_2_12 w0_3_12 w0_4_12 w0_5_12 w1_a_12 w2_a_12 := hE
      refine lv_iload_n hx hb dX4_read_12 rfl (lv_at hl 3 rfl) ?_
      refine lv_iload_n hx hb dX4_read_13 rfl (lv_at hl 2 rfl) ?_
      have J41 : ∀ (ls : Array Slot) (hl : lv_has ls 4 [(0, .ref qs), (2, .int tl)]) (hE : (x_X4_read sk sn sfm sft xf tl) = x_X4_read_j41 tl w0_2_12 w0_3_12 w0_4_12 w0_5_12 w1_a_12 w2_a_12), W p l e (headSpec wqX4_read ({ frames := 3, cells := 0, slots := 0, locals := 62 } : Room)).room s m ([.ref qs, .ref qx, .int tl] : List Value).toArray below meth c H locs 0 0 (MQ below (va_Qi (fun (r : Int32) (u : Int32 × Int32 × Int32 × Int32 × Int32 × (Nat → Int32) × (Nat → Int32)) => u = (x_X4_read sk sn sfm sft xf tl) ∧ r = u.1) (fun (u : Int32 × Int32 × Int32 × Int32 × Int32 × (Nat → Int32) × (Nat → Int32)) t => va_P (dC, dI) vwCl [(qs, .inr (4, [.ref qsm, .ref qst, .int (u.2.1), .int (u.2.2.1), .int (u.2.2.2.1), .int (u.2.2.2.2.1)])), (qsm, .inl (cyI, 26, .inl (u.2.2.2.2.2.1))), (qst, .inl (cyI, 26, .inl (u.2.2.2.2.2.2))), (qx, .inl (cyI, 80, .inl xf))] t.heap ∧ va_D A [(qs, .inr (4, [.ref qsm, .ref qst, .int (u.2.1), .int (u.2.2.1), .int (u.2.2.2.1), .int (u.2.2.2.2.1)])), (qsm, .inl (cyI, 26, .inl (u.2.2.2.2.2.1))), (qst, .inl (cyI, 26, .inl (u.2.2.2.2.2.2))), (qx, .inl (cyI, 80, .inl xf))]) A) ([.ref qs, .ref qx, .int tl] : List Value).toArray s 0 0 A) (F0 m 41 ls []) := by
        intro ls hl hE
        refine lv_aload_n hx hb dX4_read_41 rfl (lv_at hl 0 rfl) ?_
        refine va_get (D := (dC, dI)) (ci := 4) (v := .int w0_3_12) (C := RX4) (T := TX4) (N := 6) hx hb hts i_X4 hown hK hP 0 rfl rfl 3 (by decide) w_1 (fun _ h9 => h9) rfl dX4_read_42 ?_
        refine lv_if_ne (tgt := 52) hx hb dX4_read_45 (by decide) (fun c_2 => ?_) (fun c_2 => ?_)
        ·
          have hE := hE.trans (if_neg c_2)
          refine lv_iload_n hx hb dX4_read_52 rfl (lv_at hl 1 rfl) ?_
          exact W.iret (v := tl) hx hb hr (fun t h9 hW => ⟨⟨tl, ((tl, w0_2_12, w0_3_12, w0_4_12, w0_5_12, w1_a_12, w2_a_12) : Int32 × Int32 × Int32 × Int32 × Int32 × (Nat → Int32) × (Nat → Int32)), rfl, ⟨hE.symm, rfl⟩, by rw [h9]; exact hP, hD⟩, hS.F h9⟩) hS.2.2 dX4_read_53
        ·
          have hE := hE.trans (if_pos c_2)
          refine lv_iconst (v := -1) hx hb dX4_read_48 (by decide) ?_
          refine lv_goto (tgt := 53) hx hb dX4_read_49 (by decide) ?_
          exact W.iret (v := (-1 : Int32)) hx hb hr (fun t h9 hW => ⟨⟨(-1 : Int32), (((-1 : Int32), w0_2_12, w0_3_12, w0_4_12, w0_5_12, w1_a_12, w2_a_12) : Int32 × Int32 × Int32 × Int32 × Int32 × (Nat → Int32) × (Nat → Int32)), rfl, ⟨hE.symm, rfl⟩, by rw [h9]; exact hP, hD⟩, hS.F h9⟩) hS.2.2 dX4_read_53
      refine lv_icmp_ge (tgt := 41) hx hb dX4_read_14 (by decide) (fun c_1 => ?_) (fun c_1 => ?_)
      ·
        have c_1 : tl.toNatClampNeg ≤ k3_12 := by
          have h1 : ((nI k3_12)) = nI k3_12 := rfl
          have h2 : (tl) = nI tl.toNatClampNeg := htl
          have h3 : (nI tl.toNatClampNeg ≤ nI k3_12) := by first | exact c_1 | (rw [← h1, ← h2]; exact c_1)
          exact (nI_leI (by omega) (by omega)).mp h3
        have hE := hE.trans (if_pos c_1)
        exact J41 ls (lv_sub hl [0, 2] rfl) hE
      ·
        have c_1 : ¬ tl.toNatClampNeg ≤ k3_12 := by
          have h1 : ((nI k3_12)) = nI k3_12 := rfl
          have h2 : (tl) = nI tl.toNatClampNeg := htl
          have h3 : ¬ (nI tl.toNatClampNeg ≤ nI k3_12) := by first | exact c_1 | (rw [← h1, ← h2]; exact c_1)
          exact fun h => h3 ((nI_leI (by omega) (by omega)).mpr h)
        have hE := hE.trans (if_neg c_1)
        refine lv_iload_n hx hb dX4_read_17 rfl (lv_at hl 3 rfl) ?_
        refine lv_aload_n hx hb dX4_read_18 rfl (lv_at hl 1 rfl) ?_
        refine va_alen (v := 80) hx hb hK hP 3 0 rfl rfl rfl dX4_read_19 ?_
        refine lv_icmp_ge (tgt := 41) hx hb dX4_read_20 (by decide) (fun c_3 => ?_) (fun c_3 => ?_)
        ·
          have c_3 : 80 ≤ k3_12 := by
            have h1 : ((nI k3_12)) = nI k3_12 := rfl
            have h2 : ((80 : Int32)) = nI 80 := rfl
            have h3 : (nI 80 ≤ nI k3_12) := by first | exact c_3 | (rw [← h1, ← h2]; exact c_3)
            exact (nI_leI (by omega) (by omega)).mp h3
          have hE := hE.trans (if_pos c_3)
          exact J41 ls (lv_sub hl [0, 2] rfl) hE
        ·
          have c_3 : ¬ 80 ≤ k3_12 := by
            have h1 : ((nI k3_12)) = nI k3_12 := rfl
            have h2 : ((80 : Int32)) = nI 80 := rfl
            have h3 : ¬ (nI 80 ≤ nI k3_12) := by first | exact c_3 | (rw [← h1, ← h2]; exact c_3)
            exact fun h => h3 ((nI_leI (by omega) (by omega)).mpr h)
          have hE := hE.trans (if_neg c_3)
          refine lv_aload_n hx hb dX4_read_23 rfl (lv_at hl 0 rfl) ?_
          refine lv_aload_n hx hb dX4_read_24 rfl (lv_at hl 1 rfl) ?_
          refine lv_iload_n hx hb dX4_read_25 rfl (lv_at hl 3 rfl) ?_
          refine ra_ld hx hb hK hP 3 0 rfl rfl (j := k3_12) (rfl : (nI k3_12) = nI k3_12) (by omega) (by omega) dX4_read_26 ?_
          refine mj_i (wr := [(qx, .inl (cyI, 80, .inl xf))]) (va_runV (As := [.int (xf (k3_12))]) (rest := []) ⟨hx, hb, hml, hown, hts⟩ (c_X4_accepts l dC dI cyI H.size qs qsm qst w0_2_12 w0_3_12 w0_4_12 w0_5_12 w1_a_12 w2_a_12 (xf (k3_12))) (cwV 1 hts (gBV b_941 b_942 b_943 b_22 b_944) rfl rfl rfl (by decide +kernel) ⟨Nat.le_of_ble_eq_true rfl, Nat.le_of_ble_eq_true rfl⟩) (prm_v eX_ok he hS (hP.sub (ws' := [(qs, .inr (4, [.ref qsm, .ref qst, .int w0_2_12, .int w0_3_12, .int w0_4_12, .int w0_5_12])), (qsm, .inl (cyI, 26, .inl w1_a_12)), (qst, .inl (cyI, 26, .inl w2_a_12))]) [0, 1, 2] rfl) (hD.sub (ws' := [(qs, .inr (4, [.ref qsm, .ref qst, .int w0_2_12, .int w0_3_12, .int w0_4_12, .int w0_5_12])), (qsm, .inl (cyI, 26, .inl w1_a_12)), (qst, .inl (cyI, 26, .inl w2_a_12))]) [0, 1, 2] (by decide) rfl) hK (va_free (wc := [(qs, .inr (4, [.ref qsm, .ref qst, .int w0_2_12, .int w0_3_12, .int w0_4_12, .int w0_5_12])), (qsm, .inl (cyI, 26, .inl w1_a_12)), (qst, .inl (cyI, 26, .inl w2_a_12))]) hD hS hA [0, 1, 2] rfl) 0 rfl rfl rfl) rfl rfl hl.1 rfl (lv_room (Nat.le_of_ble_eq_true rfl)) dX4_read_27 ⟨Nat.le_of_ble_eq_true rfl, Nat.le_of_ble_eq_true rfl⟩) hP hD hS hA [0, 1, 2] [3] rfl rfl (by decide) (by decide) (fun r_5 u_4 H locs hw hP hD hS => ?_)
          obtain ⟨hu_4, rfl, hbu_4⟩ := hw
          have hE := hE.trans (spLet_eq hu_4)
          have hP : va_P (dC, dI) vwCl [(qs, .inr (4, [.ref qsm, .ref qst, .int (u_4.2.1), .int (u_4.2.2.1), .int (u_4.2.2.2.1), .int (u_4.2.2.2.2.1)])), (qsm, .inl (cyI, 26, .inl (u_4.2.2.2.2.2.1))), (qst, .inl (cyI, 26, .inl (u_4.2.2.2.2.2.2))), (qx, .inl (cyI, 80, .inl xf))] H := hP.sub [1, 2, 3, 0] rfl
          have hD : va_D A [(qs, .inr (4, [.ref qsm, .ref qst, .int (u_4.2.1), .int (u_4.2.2.1), .int (u_4.2.2.2.1), .int (u_4.2.2.2.2.1)])), (qsm, .inl (cyI, 26, .inl (u_4.2.2.2.2.2.1))), (qst, .inl (cyI, 26, .inl (u_4.2.2.2.2.2.2))), (qx, .inl (cyI, 80, .inl xf))] := hD.sub [1, 2, 3, 0] (by decide) rfl
          refine lv_if_ne (tgt := 35) hx hb dX4_read_30 (by decide) (fun c_6 => ?_) (fun c_6 => ?_)
          ·
            have hE := hE.trans (if_neg c_6)
            refine lv_iinc (v := (nI (k3_12 + 1))) (lv' := [(3, .int (nI (k3_12 + 1))), (0, .ref qs), (1, .ref qx), (2, .int tl)]) hx hb dX4_read_35 hl (k := 3) rfl (show _ from (congrArg (fun z => z + Int32.ofInt 1) (rfl)).trans (ninc _ 1)) (by decide) rfl (fun ls hl => ?_)
            refine lv_goto (tgt := 12) hx hb dX4_read_38 (by decide) ?_
            exact ih12 (k3_12 + 1) (u_4.2.1) (u_4.2.2.1) (u_4.2.2.2.1) (u_4.2.2.2.2.1) (u_4.2.2.2.2.2.1) (u_4.2.2.2.2.2.2) (by omega) _ _ hP hD hS ls (lv_sub hl [1, 2, 3, 0] rfl) hE
          ·
            have hE := hE.trans (if_pos c_6)
            refine lv_iload_n hx hb dX4_read_33 rfl (lv_at hl 3 rfl) ?_
            exact W.iret (v := (nI k3_12)) hx hb hr (fun t h9 hW => ⟨⟨(nI k3_12), (((nI k3_12), (u_4.2.1), (u_4.2.2.1), (u_4.2.2.2.1), (u_4.2.2.2.2.1), (u_4.2.2.2.2.2.1), (u_4.2.2.2.2.2.2)) : Int32 × Int32 × Int32 × Int32 × Int32 × (Nat → Int32) × (Nat → Int32)), rfl, ⟨hE.symm, rfl⟩, by rw [h9]; exact hP, hD⟩, hS.F h9⟩) hS.2.2 dX4_read_34
  exact L12 (tl.toNatClampNeg + 1) 0 (0 : Int32) (0 : Int32) sk sn sfm sft (by omega) _ _ hP hD hS ls (lv_sub hl [1, 2, 3, 0] rfl) hE

