def j_J9_floorMod_7cf53 (fa : Int32) (fb : Int32) : Int32 :=
  spLet ((fa - fa / fb * fb)) (fun x_1 => if 0 ≤ (fa ^^^ fb) then x_1 else (if x_1 = 0 then x_1 else ((x_1 + fb))))
set_option maxHeartbeats 1000000 in
set_option maxRecDepth 100000 in
theorem c_J9_floorMod_7cf53 (l : Launch) (dC : Nat → ClassId) (dI : Nat → Nat → Nat) (cyI : ClassId) (fa : Int32) (fb : Int32) (hfb : ¬ fb = 0) : Met l yJ9_floorMod_7cf53 wqJ9_floorMod_7cf53 ({ frames := 0, cells := 0, slots := 0, locals := 0 } : Room) (va_Pc [.int fa, .int fb] (pB (dC, dI) [] [] eM)) (vp_Si (fun r => r = (j_J9_floorMod_7cf53 fa fb))) 0 0 aF := by
  refine Met.ofWF (cc := cJ9_floorMod_7cf53) (maxL := 3) (ret := (some .int)) (by decide +kernel) rfl ?_
  intro p e s m args below meth c s₁ B hml hv
  obtain ⟨rfl, hP, hK, he⟩ := hv
  have hx := B.exec
  have hb := B.bytes
  have hr := B.returns
  have hts := atoms_spec (ws := wqJ9_floorMod_7cf53) B.pre
  have hown : s.vm.findClass RJ9 = some m.cls := findClass_of_methodNamed B.named
  have hlocks := B.notSynchronized
  have hS : va_S aF s.heap s.heap [] := va_S.rf
  have hP : va_P (dC, dI) vwCl [] s.heap := hP
  have hl := lv_entry ([.int fa, .int fb] : List Value) (n := 3) (Nat.le_of_ble_eq_true rfl)
  rw [lg_entry_eq]
  generalize (lg_sl ([.int fa, .int fb] : List Value) ++ List.replicate (3 - (lg_sl ([.int fa, .int fb] : List Value)).length) Slot.unset).toArray = ls at hl ⊢
  have hl : lv_has ls 3 [(0, .int fa), (1, .int fb)] := hl
  have hE : j_J9_floorMod_7cf53 fa fb = j_J9_floorMod_7cf53 fa fb := rfl
  refine lv_iload_n hx hb dJ9_floorMod_7cf53_0 rfl (lv_at hl 0 rfl) ?_
  refine lv_iload_n hx hb dJ9_floorMod_7cf53_1 rfl (lv_at hl 1 rfl) ?_
  refine lv_irem hx hb dJ9_floorMod_7cf53_2 (hfb) ?_
  refine lv_topi (fun x_1 ex_1 => ?_)
  have hE := hE.trans (spLet_eq ex_1)
  refine lv_istore_n (lv' := [(2, .int x_1), (0, .int fa), (1, .int fb)]) hx hb dJ9_floorMod_7cf53_3 rfl hl (by decide) rfl (fun ls hl => ?_)
  refine lv_iload_n hx hb dJ9_floorMod_7cf53_4 rfl (lv_at hl 1 rfl) ?_
  refine lv_iload_n hx hb dJ9_floorMod_7cf53_5 rfl (lv_at hl 2 rfl) ?_
  refine lv_ixor hx hb dJ9_floorMod_7cf53_6 ?_
  refine lv_if_ge (tgt := 18) hx hb dJ9_floorMod_7cf53_7 (by decide) (fun c_2 => ?_) (fun c_2 => ?_)
  ·
    have hE := hE.trans (if_pos c_2)
    refine lv_iload_n hx hb dJ9_floorMod_7cf53_18 rfl (lv_at hl 0 rfl) ?_
    exact W.iret (v := x_1) hx hb hr (fun t ht hW => ⟨_, rfl, hE.symm, ht⟩) (fun q h => by cases h) dJ9_floorMod_7cf53_19
  ·
    have hE := hE.trans (if_neg c_2)
    refine lv_iload_n hx hb dJ9_floorMod_7cf53_10 rfl (lv_at hl 0 rfl) ?_
    refine lv_if_eq (tgt := 18) hx hb dJ9_floorMod_7cf53_11 (by decide) (fun c_3 => ?_) (fun c_3 => ?_)
    ·
      have hE := hE.trans (if_pos c_3)
      refine lv_iload_n hx hb dJ9_floorMod_7cf53_18 rfl (lv_at hl 0 rfl) ?_
      exact W.iret (v := x_1) hx hb hr (fun t ht hW => ⟨_, rfl, hE.symm, ht⟩) (fun q h => by cases h) dJ9_floorMod_7cf53_19
    ·
      have hE := hE.trans (if_neg c_3)
      refine lv_iload_n hx hb dJ9_floorMod_7cf53_14 rfl (lv_at hl 0 rfl) ?_
      refine lv_iload_n hx hb dJ9_floorMod_7cf53_15 rfl (lv_at hl 2 rfl) ?_
      refine lv_iadd hx hb dJ9_floorMod_7cf53_16 ?_
      exact W.iret (v := (x_1 + fb)) hx hb hr (fun t ht hW => ⟨_, rfl, hE.symm, ht⟩) (fun q h => by cases h) dJ9_floorMod_7cf53_17
def x_X8_clockwise (fr : Int32) (to : Int32) : Int32 :=
  if to < fr then (((to - fr) + (3600 : Int32))) else ((to - fr))
set_option maxHeartbeats 1000000 in
set_option maxRecDepth 100000 in
theorem c_X8_clockwise (l : Launch) (dC : Nat → ClassId) (dI : Nat → Nat → Nat) (cyI : ClassId) (fr : Int32) (to : Int32) : Met l yX8_clockwise wqX8_clockwise ({ frames := 0, cells := 0, slots := 0, locals := 0 } : Room) (va_Pc [.int fr, .int to] (pB (dC, dI) [] [] eX)) (vp_Si (fun r => r = (x_X8_clockwise fr to))) 0 0 aF := by
  refine Met.ofW (cc := cX8_clockwise) (maxL := 2) (ret := (some .int)) (by decide) rfl ?_
  intro p e s m args below meth c s₁ B hml hv
  obtain ⟨rfl, hP, hK, he⟩ := hv
  have hx := B.exec
  have hb := B.bytes
  have hr := B.returns
  have hts := atoms_spec (ws := wqX8_clockwise) B.pre
  have hown : s.vm.findClass RX8 = some m.cls := findClass_of_methodNamed B.named
  have hlocks := B.notSynchronized
  have hS : va_S aF s.heap s.heap [] := va_S.rf
  have hP : va_P (dC, dI) vwCl [] s.heap := hP
  have hl := lv_entry ([.int fr, .int to] : List Value) (n := 2) (Nat.le_of_ble_eq_true rfl)
  rw [lg_entry_eq]
  generalize (lg_sl ([.int fr, .int to] : List Value) ++ List.replicate (2 - (lg_sl ([.int fr, .int to] : List Value)).length) Slot.unset).toArray = ls at hl ⊢
  have hl : lv_has ls 2 [(0, .int fr), (1, .int to)] := hl
  have hE : x_X8_clockwise fr to = x_X8_clockwise fr to := rfl
  refine lv_iload_n hx hb dX8_clockwise_0 rfl (lv_at hl 1 rfl) ?_
  refine lv_iload_n hx hb dX8_clockwise_1 rfl (lv_at hl 0 rfl) ?_
  refine lv_icmp_lt (tgt := 11) hx hb dX8_clockwise_2 (by decide) (fun c_1 => ?_) (fun c_1 => ?_)
  ·
    have hE := hE.trans (if_pos c_1)
    refine lv_iload_n hx hb dX8_clockwise_11 rfl (lv_at hl 1 rfl) ?_
    refine lv_iload_n hx hb dX8_clockwise_12 rfl (lv_at hl 0 rfl) ?_
    refine lv_isub hx hb dX8_clockwise_13 ?_
    refine lv_sipush (v := 3600) hx hb dX8_clockwise_14 (by decide) ?_
    refine lv_iadd hx hb dX8_clockwise_17 ?_
    exact W.iret (v := ((to - fr) + (3600 : Int32))) hx hb hr (fun t ht hW => ⟨_, rfl, hE.symm, ht⟩) (fun q h => by cases h) dX8_clockwise_18
  ·
    have hE := hE.trans (if_neg c_1)
    refine lv_iload_n hx hb dX8_clockwise_5 rfl (lv_at hl 1 rfl) ?_
    refine lv_iload_n hx hb dX8_clockwise_6 rfl (lv_at hl 0 rfl) ?_
    refine lv_isub hx hb dX8_clockwise_7 ?_
    refine lv_goto (tgt := 18) hx hb dX8_clockwise_8 (by decide) ?_
    exact W.iret (v := (to - fr)) hx hb hr (fun t ht hW => ⟨_, rfl, hE.symm, ht⟩) (fun q h => by cases h) dX8_clockwise_18
def x_X8_addsMoment (mo : Int32) : Int32 :=
  if mo = 0 then (1 : Int32) else (if mo = (3 : Int32) then (1 : Int32) else (if mo = (4 : Int32) then (1 : Int32) else (0 : Int32)))
set_option maxHeartbeats 1000000 in
set_option maxRecDepth 100000 in
theorem c_X8_addsMoment (l : Launch) (dC : Nat → ClassId) (dI : Nat → Nat → Nat) (cyI : ClassId) (mo : Int32) : Met l yX8_addsMoment wqX8_addsMoment ({ frames := 0, cells := 0, slots := 0, locals := 0 } : Room) (va_Pc [.int mo] (pB (dC, dI) [] [] eX)) (vp_Si (fun r => r = (x_X8_addsMoment mo) ∧ (r = 0 ∨ r = 1))) 0 0 aF := by
  refine Met.ofW (cc := cX8_addsMoment) (maxL := 1) (ret := (some .boolean)) (by decide) rfl ?_
  intro p e s m args below meth c s₁ B hml hv
  obtain ⟨rfl, hP, hK, he⟩ := hv
  have hx := B.exec
  have hb := B.bytes
  have hr := B.returns
  have hts := atoms_spec (ws := wqX8_addsMoment) B.pre
  have hown : s.vm.findClass RX8 = some m.cls := findClass_of_methodNamed B.named
  have hlocks := B.notSynchronized
  have hS : va_S aF s.heap s.heap [] := va_S.rf
  have hP : va_P (dC, dI) vwCl [] s.heap := hP
  have hl := lv_entry ([.int mo] : List Value) (n := 1) (Nat.le_of_ble_eq_true rfl)
  rw [lg_entry_eq]
  generalize (lg_sl ([.int mo] : List Value) ++ List.replicate (1 - (lg_sl ([.int mo] : List Value)).length) Slot.unset).toArray = ls at hl ⊢
  have hl : lv_has ls 1 [(0, .int mo)] := hl
  have hE : x_X8_addsMoment mo = x_X8_addsMoment mo := rfl
  refine lv_iload_n hx hb dX8_addsMoment_0 rfl (lv_at hl 0 rfl) ?_
  refine lv_if_eq (tgt := 14) hx hb dX8_addsMoment_1 (by decide) (fun c_1 => ?_) (fun c_1 => ?_)
  ·
    have hE := hE.trans (if_pos c_1)
    refine lv_iconst (v := 1) hx hb dX8_addsMoment_14 (by decide) ?_
    refine lv_goto (tgt := 19) hx hb dX8_addsMoment_15 (by decide) ?_
    exact W.zret (v := (1 : Int32)) hx hb hr rfl (fun t ht hW => ⟨_, rfl, ⟨hE.symm, (by decide)⟩, ht⟩) (fun q h => by cases h) dX8_addsMoment_19
  ·
    have hE := hE.trans (if_neg c_1)
    refine lv_iload_n hx hb dX8_addsMoment_4 rfl (lv_at hl 0 rfl) ?_
    refine lv_iconst (v := 3) hx hb dX8_addsMoment_5 (by decide) ?_
    refine lv_icmp_eq (tgt := 14) hx hb dX8_addsMoment_6 (by decide) (fun c_2 => ?_) (fun c_2 => ?_)
    ·
      have hE := hE.trans (if_pos c_2)
      refine lv_iconst (v := 1) hx hb dX8_addsMoment_14 (by decide) ?_
      refine lv_goto (tgt := 19) hx hb dX8_addsMoment_15 (by decide) ?_
      exact W.zret (v := (1 : Int32)) hx hb hr rfl (fun t ht hW => ⟨_, rfl, ⟨hE.symm, (by decide)⟩, ht⟩) (fun q h => by cases h) dX8_addsMoment_19
    ·
      have hE := hE.trans (if_neg c_2)
      refine lv_iload_n hx hb dX8_addsMoment_9 rfl (lv_at hl 0 rfl) ?_
      refine lv_iconst (v := 4) hx hb dX8_addsMoment_10 (by decide) ?_
      refine lv_icmp_ne (tgt := 18) hx hb dX8_addsMoment_11 (by decide) (fun c_3 => ?_) (fun c_3 => ?_)
      ·
        have hE := hE.trans (if_neg c_3)
        refine lv_iconst (v := 0) hx hb dX8_addsMoment_18 (by decide) ?_
        exact W.zret (v := (0 : Int32)) hx hb hr rfl (fun t ht hW => ⟨_, rfl, ⟨hE.symm, (by decide)⟩, ht⟩) (fun q h => by cases h) dX8_addsMoment_19
      ·
        have hE := hE.trans (if_pos c_3)
        refine lv_iconst (v := 1) hx hb dX8_addsMoment_14 (by decide) ?_
        refine lv_goto (tgt := 19) hx hb dX8_addsMoment_15 (by decide) ?_
        exact W.zret (v := (1 : Int32)) hx hb hr rfl (fun t ht hW => ⟨_, rfl, ⟨hE.symm, (by decide)⟩, ht⟩) (fun q h => by cases h) dX8_addsMoment_19
def x_X8_utilization (net : Int32) (rt : Int32) : Int32 :=
  if 0 < net then (if 0 < rt then ((if (((1000 : Int64) * net.toInt64) / rt.toInt64) < (9999 : Int64) then (((1000 : Int64) * net.toInt64) / rt.toInt64) else (9999 : Int64)).toInt32) else (9999 : Int32)) else (0 : Int32)
set_option maxHeartbeats 1000000 in
set_option maxRecDepth 100000 in
theorem c_X8_utilization (l : Launch) (dC : Nat → ClassId) (dI : Nat → Nat → Nat) (cyI : ClassId) (net : Int32) (rt : Int32) : Met l yX8_utilization wqX8_utilization ({ frames := 1, cells := 0, slots := 0, locals := 15 } : Room) (va_Pc [.int net, .int rt] (pB (dC, dI) [] [] eX)) (vp_Si (fun r => r = (x_X8_utilization net rt))) 0 0 aF := by
  refine Met.ofW (cc := cX8_utilization) (maxL := 2) (ret := (some .int)) (by decide) rfl ?_
  intro p e s m args below meth c s₁ B hml hv
  obtain ⟨rfl, hP, hK, he⟩ := hv
  have hx := B.exec
  have hb := B.bytes
  have hr := B.returns
  have hts := atoms_spec (ws := wqX8_utilization) B.pre
  have hown : s.vm.findClass RX8 = some m.cls := findClass_of_methodNamed B.named
  have hlocks := B.notSynchronized
  have w_0 := hts (Cond.constantLong RX8 304 (9999)) (List.mem_cons_of_mem _ b_581)
  have w_1 := hts (Cond.constantLong RX8 306 (1000)) (List.mem_cons_of_mem _ b_582)
  have w_2 := hts (Cond.methodLink RX8 308 Lib.MathLoose.min_long.x) (List.mem_cons_of_mem _ b_583)
  have w_3 := hts (Cond.static Lib.MathLoose.min_long.x) (List.mem_cons_of_mem _ b_584)
  have w_4 := hts (Cond.initialized "java/lang/Math") (List.mem_cons_of_mem _ b_128)
  have w_5 := hts (Cond.code Lib.MathLoose.min_long.x Lib.MathLoose.min_long.code 4 (some .long)) (List.mem_cons_of_mem _ b_585)
  have hS : va_S aF s.heap s.heap [] := va_S.rf
  have hP : va_P (dC, dI) vwCl [] s.heap := hP
  have hl := lv_entry ([.int net, .int rt] : List Value) (n := 2) (Nat.le_of_ble_eq_true rfl)
  rw [lg_entry_eq]
  generalize (lg_sl ([.int net, .int rt] : List Value) ++ List.replicate (2 - (lg_sl ([.int net, .int rt] : List Value)).length) Slot.unset).toArray = ls at hl ⊢
  have hl : lv_has ls 2 [(0, .int net), (1, .int rt)] := hl
  have hE : x_X8_utilization net rt = x_X8_utilization net rt := rfl
  refine lv_iload_n hx hb dX8_utilization_0 rfl (lv_at hl 0 rfl) ?_
  refine lv_if_gt (tgt := 6) hx hb dX8_utilization_1 (by decide) (fun c_1 => ?_) (fun c_1 => ?_)
  ·
    have hE := hE.trans (if_pos c_1)
    refine lv_iload_n hx hb dX8_utilization_6 rfl (lv_at hl 1 rfl) ?_
    refine lv_if_gt (tgt := 14) hx hb dX8_utilization_7 (by decide) (fun c_2 => ?_) (fun c_2 => ?_)
    ·
      have hE := hE.trans (if_pos c_2)
      have hne := xne_lt (x := rt) (by assumption)
      refine lv_ldc2 (v := 9999) hx hb hown w_0 dX8_utilization_14 ?_
      refine lv_ldc2 (v := 1000) hx hb hown w_1 dX8_utilization_17 ?_
      refine lv_iload_n hx hb dX8_utilization_20 rfl (lv_at hl 0 rfl) ?_
      refine lv_i2l hx hb dX8_utilization_21 rfl ?_
      refine lv_lmul hx hb dX8_utilization_22 ?_
      refine lv_iload_n hx hb dX8_utilization_23 rfl (lv_at hl 1 rfl) ?_
      refine lv_i2l hx hb dX8_utilization_24 rfl ?_
      refine lv_ldiv hx hb dX8_utilization_25 (ne0_l hne) ?_
      refine va_mmin_long hx hb (hml.trans hl.1.symm) hown w_2 w_3 w_4 w_5 (Nat.le_of_ble_eq_true rfl) (Nat.le_of_ble_eq_true rfl) (Nat.le_of_ble_eq_true rfl) (Nat.le_of_ble_eq_true rfl) dX8_utilization_26 ?_
      refine lv_l2i hx hb dX8_utilization_29 rfl ?_
      exact W.iret (v := (if (((1000 : Int64) * net.toInt64) / rt.toInt64) < (9999 : Int64) then (((1000 : Int64) * net.toInt64) / rt.toInt64) else (9999 : Int64)).toInt32) hx hb hr (fun t ht hW => ⟨_, rfl, hE.symm, ht⟩) (fun q h => by cases h) dX8_utilization_30
    ·
      have hE := hE.trans (if_neg c_2)
      refine lv_sipush (v := 9999) hx hb dX8_utilization_10 (by decide) ?_
      exact W.iret (v := (9999 : Int32)) hx hb hr (fun t ht hW => ⟨_, rfl, hE.symm, ht⟩) (fun q h => by cases h) dX8_utilization_13
  ·
    have hE := hE.trans (if_neg c_1)
    refine lv_iconst (v := 0) hx hb dX8_utilization_4 (by decide) ?_
    exact W.iret (v := (0 : Int32)) hx hb hr (fun t ht hW => ⟨_, rfl, hE.symm, ht⟩) (fun q h => by cases h) dX8_utilization_5
def x_X0_cosine (te : Int32) : Int32 :=
  spLet ((te / (100 : Int32))) (fun x_1 => if x_1 < 0 then (0 : Int32) else (if x_1 < ((10 : Int32) - (1 : Int32)) then (spLet (((tCos ((x_1).toNatClampNeg)) - (tCos ((x_1).toNatClampNeg + 1)))) (fun x_4 => ((tCos ((x_1).toNatClampNeg)) - ((x_4 * (te - ((100 : Int32) * x_1))) / (100 : Int32))))) else (0 : Int32)))
set_option maxHeartbeats 1000000 in
set_option maxRecDepth 100000 in
theorem c_X0_cosine (l : Launch) (dC : Nat → ClassId) (dI : Nat → Nat → Nat) (cyI : ClassId) (te : Int32) : Met l yX0_cosine wqX0_cosine ({ frames := 0, cells := 0, slots := 0, locals := 0 } : Room) (va_Pc [.int te] (pB (dC, dI) [] [] eX)) (vp_Si (fun r => r = (x_X0_cosine te))) 0 0 aF := by
  refine Met.ofW (cc := cX0_cosine) (maxL := 3) (ret := (some .int)) (by decide) rfl ?_
  intro p e s m args below meth c s₁ B hml hv
  obtain ⟨rfl, hP, hK, he⟩ := hv
  have hx := B.exec
  have hb := B.bytes
  have hr := B.returns
  have hts := atoms_spec (ws := wqX0_cosine) B.pre
  have hown : s.vm.findClass RX0 = some m.cls := findClass_of_methodNamed B.named
  have hlocks := B.notSynchronized
  have w_0 := hts (Cond.fieldLink RX0 63 "CraneLimiter$Boom" "COSINES" "[I") (List.mem_cons_of_mem _ b_362)
  have hS : va_S aF s.heap s.heap [] := va_S.rf
  have hP : va_P (dC, dI) vwCl [] s.heap := hP
  have hl := lv_entry ([.int te] : List Value) (n := 3) (Nat.le_of_ble_eq_true rfl)
  rw [lg_entry_eq]
  generalize (lg_sl ([.int te] : List Value) ++ List.replicate (3 - (lg_sl ([.int te] : List Value)).length) Slot.unset).toArray = ls at hl ⊢
  have hl : lv_has ls 3 [(0, .int te)] := hl
  have hE : x_X0_cosine te = x_X0_cosine te := rfl
  obtain ⟨aC, hzaC, htaC⟩ := he.cos
  refine lv_iload_n hx hb dX0_cosine_0 rfl (lv_at hl 0 rfl) ?_
  refine lv_bipush (v := 100) hx hb dX0_cosine_1 (by decide) ?_
  refine lv_idiv hx hb dX0_cosine_3 (by decide) ?_
  refine lv_topi (fun x_1 ex_1 => ?_)
  have hE := hE.trans (spLet_eq ex_1)
  refine lv_istore_n (lv' := [(1, .int x_1), (0, .int te)]) hx hb dX0_cosine_4 rfl hl (by decide) rfl (fun ls hl => ?_)
  refine lv_iload_n hx hb dX0_cosine_5 rfl (lv_at hl 0 rfl) ?_
  refine lv_if_lt (tgt := 19) hx hb dX0_cosine_6 (by decide) (fun c_2 => ?_) (fun c_2 => ?_)
  ·
    have hE := hE.trans (if_pos c_2)
    refine lv_iconst (v := 0) hx hb dX0_cosine_19 (by decide) ?_
    exact W.iret (v := (0 : Int32)) hx hb hr (fun t ht hW => ⟨_, rfl, hE.symm, ht⟩) (fun q h => by cases h) dX0_cosine_20
  ·
    have hE := hE.trans (if_neg c_2)
    refine lv_iload_n hx hb dX0_cosine_9 rfl (lv_at hl 0 rfl) ?_
    refine va_gets hx hb hzaC hS hown w_0 (fun _ h9 => h9) dX0_cosine_10 ?_
    refine rt_len (v := 10) hx hb htaC hS rfl dX0_cosine_13 ?_
    refine lv_iconst (v := 1) hx hb dX0_cosine_14 (by decide) ?_
    refine lv_isub hx hb dX0_cosine_15 ?_
    refine lv_icmp_lt (tgt := 21) hx hb dX0_cosine_16 (by decide) (fun c_3 => ?_) (fun c_3 => ?_)
    ·
      have hE := hE.trans (if_pos c_3)
      have hk := xcos_k (by assumption) (by assumption)
      have hk2 := hk.2
      refine va_gets hx hb hzaC hS hown w_0 (fun _ h9 => h9) dX0_cosine_21 ?_
      refine lv_iload_n hx hb dX0_cosine_24 rfl (lv_at hl 0 rfl) ?_
      refine rt_ld hx hb htaC hS (j := (x_1).toNatClampNeg) hk.1 (by omega) (by omega) dX0_cosine_25 ?_
      refine va_gets hx hb hzaC hS hown w_0 (fun _ h9 => h9) dX0_cosine_26 ?_
      refine lv_iload_n hx hb dX0_cosine_29 rfl (lv_at hl 0 rfl) ?_
      refine lv_iconst (v := 1) hx hb dX0_cosine_30 (by decide) ?_
      refine lv_iadd hx hb dX0_cosine_31 ?_
      refine rt_ld hx hb htaC hS (j := ((x_1).toNatClampNeg + 1)) (nadd hk.1 (rfl : (1 : Int32) = nI 1)) (by omega) (by omega) dX0_cosine_32 ?_
      refine lv_isub hx hb dX0_cosine_33 ?_
      refine lv_topi (fun x_4 ex_4 => ?_)
      have hE := hE.trans (spLet_eq ex_4)
      refine lv_istore_n (lv' := [(2, .int x_4), (1, .int x_1), (0, .int te)]) hx hb dX0_cosine_34 rfl hl (by decide) rfl (fun ls hl => ?_)
      refine va_gets hx hb hzaC hS hown w_0 (fun _ h9 => h9) dX0_cosine_35 ?_
      refine lv_iload_n hx hb dX0_cosine_38 rfl (lv_at hl 1 rfl) ?_
      refine rt_ld hx hb htaC hS (j := (x_1).toNatClampNeg) hk.1 (by omega) (by omega) dX0_cosine_39 ?_
      refine lv_iload_n hx hb dX0_cosine_40 rfl (lv_at hl 0 rfl) ?_
      refine lv_iload_n hx hb dX0_cosine_41 rfl (lv_at hl 2 rfl) ?_
      refine lv_bipush (v := 100) hx hb dX0_cosine_42 (by decide) ?_
      refine lv_iload_n hx hb dX0_cosine_44 rfl (lv_at hl 1 rfl) ?_
      refine lv_imul hx hb dX0_cosine_45 ?_
      refine lv_isub hx hb dX0_cosine_46 ?_
      refine lv_imul hx hb dX0_cosine_47 ?_
      refine lv_bipush (v := 100) hx hb dX0_cosine_48 (by decide) ?_
      refine lv_idiv hx hb dX0_cosine_50 (by decide) ?_
      refine lv_isub hx hb dX0_cosine_51 ?_
      exact W.iret (v := ((tCos ((x_1).toNatClampNeg)) - ((x_4 * (te - ((100 : Int32) * x_1))) / (100 : Int32)))) hx hb hr (fun t ht hW => ⟨_, rfl, hE.symm, ht⟩) (fun q h => by cases h) dX0_cosine_52
    ·
      have hE := hE.trans (if_neg c_3)
      refine lv_iconst (v := 0) hx hb dX0_cosine_19 (by decide) ?_
      exact W.iret (v := (0 : Int32)) hx hb hr (fun t ht hW => ⟨_, rfl, hE.symm, ht⟩) (fun q h => by cases h) dX0_cosine_20
def x_X0_radius (bln : Int32) (ban : Int32) : Int32 :=
  spLet (x_X0_cosine ban) (fun r_1 => (if (100 : Int32) < (((bln * r_1) / (10000 : Int32)) - (150 : Int32)) then (((bln * r_1) / (10000 : Int32)) - (150 : Int32)) else (100 : Int32)))
set_option maxHeartbeats 1000000 in
set_option maxRecDepth 100000 in
theorem c_X0_radius (l : Launch) (dC : Nat → ClassId) (dI : Nat → Nat → Nat) (cyI : ClassId) (qb : Nat) (bln : Int32) (ban : Int32) (bsl : Int32) (bhe : Int32) (bte : Int32) (bma : Int32) (bta : Int32) : Met l yX0_radius wqX0_radius ({ frames := 1, cells := 0, slots := 0, locals := 22 } : Room) (va_Pc [.ref qb] (pB (dC, dI) [(qb, .inr (0, [.int bln, .int ban, .int bsl, .int bhe, .int bte, .int bma, .int bta]))] [(cyI, .int)] eX)) (vp_Si (fun r => r = (x_X0_radius bln ban))) 0 0 aF := by
  refine Met.ofW (cc := cX0_radius) (maxL := 1) (ret := (some .int)) (by decide) rfl ?_
  intro p e s m args below meth c s₁ B hml hv
  obtain ⟨rfl, hP, hK, he⟩ := hv
  have hx := B.exec
  have hb := B.bytes
  have hr := B.returns
  have hts := atoms_spec (ws := wqX0_radius) B.pre
  have hown : s.vm.findClass RX0 = some m.cls := findClass_of_methodNamed B.named
  have hlocks := B.notSynchronized
  have w_0 := hts (Cond.fieldLink RX0 9 "CraneLimiter$Boom" "length" "I") (List.mem_cons_of_mem _ b_56)
  have w_1 := hts (Cond.fieldLink RX0 15 "CraneLimiter$Boom" "angle" "I") (List.mem_cons_of_mem _ b_57)
  have w_2 := hts (Cond.methodLink RX0 37 Lib.Math.max.name) (List.mem_cons_of_mem _ b_358)
  have w_3 := hts (Cond.static Lib.Math.max.name) (List.mem_cons_of_mem _ b_352)
  have w_4 := hts (Cond.initialized "java/lang/Math") (List.mem_cons_of_mem _ b_128)
  have w_5 := hts (Cond.code Lib.Math.max.name Lib.Math.max.code 2 (some .int)) (List.mem_cons_of_mem _ b_353)
  have i_X0 : ∀ w ∈ u_ws RX0 TX0 7, w ∈ wqX0_radius := fun w h => List.mem_cons_of_mem _ (bX0 w h)
  have hS : va_S aF s.heap s.heap [] := va_S.rf
  have hP : va_P (dC, dI) vwCl [(qb, .inr (0, [.int bln, .int ban, .int bsl, .int bhe, .int bte, .int bma, .int bta]))] s.heap := hP
  have hl := lv_entry ([.ref qb] : List Value) (n := 1) (Nat.le_of_ble_eq_true rfl)
  rw [lg_entry_eq]
  generalize (lg_sl ([.ref qb] : List Value) ++ List.replicate (1 - (lg_sl ([.ref qb] : List Value)).length) Slot.unset).toArray = ls at hl ⊢
  have hl : lv_has ls 1 [(0, .ref qb)] := hl
  have hE : x_X0_radius bln ban = x_X0_radius bln ban := rfl
  refine lv_bipush (v := 100) hx hb dX0_radius_0 (by decide) ?_
  refine lv_aload_n hx hb dX0_radius_2 rfl (lv_at hl 0 rfl) ?_
  refine va_get (D := (dC, dI)) (ci := 0) (v := .int bln) (C := RX0) (T := TX0) (N := 7) hx hb hts i_X0 hown hK hP 0 rfl rfl 0 (by decide) w_0 (fun _ h9 => h9) rfl dX0_radius_3 ?_
  refine lv_aload_n hx hb dX0_radius_6 rfl (lv_at hl 0 rfl) ?_
  refine va_get (D := (dC, dI)) (ci := 0) (v := .int ban) (C := RX0) (T := TX0) (N := 7) hx hb hts i_X0 hown hK hP 0 rfl rfl 1 (by decide) w_1 (fun _ h9 => h9) rfl dX0_radius_7 ?_
  refine vp_callSi (W.runS (As := [.int ban]) (rest := [.int bln, .int (100 : Int32)]) ⟨hx, hb, hml, hown, hts⟩ (c_X0_cosine l dC dI cyI ban) (va_cwS 1 hts (gBS b_359 b_360 b_30 b_361) rfl rfl rfl (by decide +kernel) ⟨Nat.le_of_ble_eq_true rfl, Nat.le_of_ble_eq_true rfl⟩) (pre_s eX_ok he hS (hP.sub (ws' := []) [] rfl) (hK.sub (tys' := []) [] rfl)) rfl rfl hl.1 rfl (lv_room (Nat.le_of_ble_eq_true rfl)) dX0_radius_10 ⟨Nat.zero_le _, Nat.zero_le _⟩) (fun r_1 hr_1 => ?_)
  have hE := hE.trans (spLet_eq hr_1)
  refine lv_imul hx hb dX0_radius_13 ?_
  refine lv_sipush (v := 10000) hx hb dX0_radius_14 (by decide) ?_
  refine lv_idiv hx hb dX0_radius_17 (by decide) ?_
  refine lv_sipush (v := 150) hx hb dX0_radius_18 (by decide) ?_
  refine lv_isub hx hb dX0_radius_21 ?_
  refine va_mmax hx hb (hml.trans hl.1.symm) hown w_2 w_3 w_4 w_5 (Nat.le_of_ble_eq_true rfl) (Nat.le_of_ble_eq_true rfl) (Nat.le_of_ble_eq_true rfl) (Nat.le_of_ble_eq_true rfl) dX0_radius_22 ?_
  exact W.iret (v := (if (100 : Int32) < (((bln * r_1) / (10000 : Int32)) - (150 : Int32)) then (((bln * r_1) / (10000 : Int32)) - (150 : Int32)) else (100 : Int32))) hx hb hr (fun t ht hW => ⟨_, rfl, hE.symm, ht⟩) (fun q h => by cases h) dX0_radius_25
def x_X0_tip (bln : Int32) (ban : Int32) : Int32 :=
  spLet (x_X0_cosine ((900 : Int32) - ban)) (fun r_1 => (((bln * r_1) / (10000 : Int32)) + (250 : Int32)))
set_option maxHeartbeats 1000000 in
set_option maxRecDepth 100000 in
theorem c_X0_tip (l : Launch) (dC : Nat → ClassId) (dI : Nat → Nat → Nat) (cyI : ClassId) (qb : Nat) (bln : Int32) (ban : Int32) (bsl : Int32) (bhe : Int32) (bte : Int32) (bma : Int32) (bta : Int32) : Met l yX0_tip wqX0_tip ({ frames := 1, cells := 0, slots := 0, locals := 22 } : Room) (va_Pc [.ref qb] (pB (dC, dI) [(qb, .inr (0, [.int bln, .int ban, .int bsl, .int bhe, .int bte, .int bma, .int bta]))] [(cyI, .int)] eX)) (vp_Si (fun r => r = (x_X0_tip bln ban))) 0 0 aF := by
  refine Met.ofW (cc := cX0_tip) (maxL := 1) (ret := (some .int)) (by decide) rfl ?_
  intro p e s m args below meth c s₁ B hml hv
  obtain ⟨rfl, hP, hK, he⟩ := hv
  have hx := B.exec
  have hb := B.bytes
  have hr := B.returns
  have hts := atoms_spec (ws := wqX0_tip) B.pre
  have hown : s.vm.findClass RX0 = some m.cls := findClass_of_methodNamed B.named
  have hlocks := B.notSynchronized
  have w_0 := hts (Cond.fieldLink RX0 9 "CraneLimiter$Boom" "length" "I") (List.mem_cons_of_mem _ b_56)
  have w_1 := hts (Cond.fieldLink RX0 15 "CraneLimiter$Boom" "angle" "I") (List.mem_cons_of_mem _ b_57)
  have i_X0 : ∀ w ∈ u_ws RX0 TX0 7, w ∈ wqX0_tip := fun w h => List.mem_cons_of_mem _ (bX0 w h)
  have hS : va_S aF s.heap s.heap [] := va_S.rf
  have hP : va_P (dC, dI) vwCl [(qb, .inr (0, [.int bln, .int ban, .int bsl, .int bhe, .int bte, .int bma, .int bta]))] s.heap := hP
  have hl := lv_entry ([.ref qb] : List Value) (n := 1) (Nat.le_of_ble_eq_true rfl)
  rw [lg_entry_eq]
  generalize (lg_sl ([.ref qb] : List Value) ++ List.replicate (1 - (lg_sl ([.ref qb] : List Value)).length) Slot.unset).toArray = ls at hl ⊢
  have hl : lv_has ls 1 [(0, .ref qb)] := hl
  have hE : x_X0_tip bln ban = x_X0_tip bln ban := rfl
  refine lv_aload_n hx hb dX0_tip_0 rfl (lv_at hl 0 rfl) ?_
  refine va_get (D := (dC, dI)) (ci := 0) (v := .int bln) (C := RX0) (T := TX0) (N := 7) hx hb hts i_X0 hown hK hP 0 rfl rfl 0 (by decide) w_0 (fun _ h9 => h9) rfl dX0_tip_1 ?_
  refine lv_sipush (v := 900) hx hb dX0_tip_4 (by decide) ?_
  refine lv_aload_n hx hb dX0_tip_7 rfl (lv_at hl 0 rfl) ?_
  refine va_get (D := (dC, dI)) (ci := 0) (v := .int ban) (C := RX0) (T := TX0) (N := 7) hx hb hts i_X0 hown hK hP 0 rfl rfl 1 (by decide) w_1 (fun _ h9 => h9) rfl dX0_tip_8 ?_
  refine lv_isub hx hb dX0_tip_11 ?_
  refine vp_callSi (W.runS (As := [.int ((900 : Int32) - ban)]) (rest := [.int bln]) ⟨hx, hb, hml, hown, hts⟩ (c_X0_cosine l dC dI cyI ((900 : Int32) - ban)) (va_cwS 1 hts (gBS b_359 b_360 b_30 b_361) rfl rfl rfl (by decide +kernel) ⟨Nat.le_of_ble_eq_true rfl, Nat.le_of_ble_eq_true rfl⟩) (pre_s eX_ok he hS (hP.sub (ws' := []) [] rfl) (hK.sub (tys' := []) [] rfl)) rfl rfl hl.1 rfl (lv_room (Nat.le_of_ble_eq_true rfl)) dX0_tip_12 ⟨Nat.zero_le _, Nat.zero_le _⟩) (fun r_1 hr_1 => ?_)
  have hE := hE.trans (spLet_eq hr_1)
  refine lv_imul hx hb dX0_tip_15 ?_
  refine lv_sipush (v := 10000) hx hb dX0_tip_16 (by decide) ?_
  refine lv_idiv hx hb dX0_tip_19 (by decide) ?_
  refine lv_sipush (v := 250) hx hb dX0_tip_20 (by decide) ?_
  refine lv_iadd hx hb dX0_tip_23 ?_
  exact W.iret (v := (((bln * r_1) / (10000 : Int32)) + (250 : Int32))) hx hb hr (fun t ht hW => ⟨_, rfl, hE.symm, ht⟩) (fun q h => by cases h) dX0_tip_24
def x_X0_hanging (bte : Int32) (bma : Int32) (bta : Int32) : Int32 :=
  (((bma * bte) / (4 : Int32)) + bta)
set_option maxHeartbeats 1000000 in
set_option maxRecDepth 100000 in
theorem c_X0_hanging (l : Launch) (dC : Nat → ClassId) (dI : Nat → Nat → Nat) (cyI : ClassId) (qb : Nat) (bln : Int32) (ban : Int32) (bsl : Int32) (bhe : Int32) (bte : Int32) (bma : Int32) (bta : Int32) : Met l yX0_hanging wqX0_hanging ({ frames := 0, cells := 0, slots := 0, locals := 0 } : Room) (va_Pc [.ref qb] (pB (dC, dI) [(qb, .inr (0, [.int bln, .int ban, .int bsl, .int bhe, .int bte, .int bma, .int bta]))] [(cyI, .int)] eX)) (vp_Si (fun r => r = (x_X0_hanging bte bma bta))) 0 0 aF := by
  refine Met.ofW (cc := cX0_hanging) (maxL := 1) (ret := (some .int)) (by decide) rfl ?_
  intro p e s m args below meth c s₁ B hml hv
  obtain ⟨rfl, hP, hK, he⟩ := hv
  have hx := B.exec
  have hb := B.bytes
  have hr := B.returns
  have hts := atoms_spec (ws := wqX0_hanging) B.pre
  have hown : s.vm.findClass RX0 = some m.cls := findClass_of_methodNamed B.named
  have hlocks := B.notSynchronized
  have w_0 := hts (Cond.fieldLink RX0 30 "CraneLimiter$Boom" "mass" "I") (List.mem_cons_of_mem _ b_145)
  have w_1 := hts (Cond.fieldLink RX0 27 "CraneLimiter$Boom" "tension" "I") (List.mem_cons_of_mem _ b_144)
  have w_2 := hts (Cond.fieldLink RX0 18 "CraneLimiter$Boom" "tare" "I") (List.mem_cons_of_mem _ b_58)
  have i_X0 : ∀ w ∈ u_ws RX0 TX0 7, w ∈ wqX0_hanging := fun w h => List.mem_cons_of_mem _ (bX0 w h)
  have hS : va_S aF s.heap s.heap [] := va_S.rf
  have hP : va_P (dC, dI) vwCl [(qb, .inr (0, [.int bln, .int ban, .int bsl, .int bhe, .int bte, .int bma, .int bta]))] s.heap := hP
  have hl := lv_entry ([.ref qb] : List Value) (n := 1) (Nat.le_of_ble_eq_true rfl)
  rw [lg_entry_eq]
  generalize (lg_sl ([.ref qb] : List Value) ++ List.replicate (1 - (lg_sl ([.ref qb] : List Value)).length) Slot.unset).toArray = ls at hl ⊢
  have hl : lv_has ls 1 [(0, .ref qb)] := hl
  have hE : x_X0_hanging bte bma bta = x_X0_hanging bte bma bta := rfl
  refine lv_aload_n hx hb dX0_hanging_0 rfl (lv_at hl 0 rfl) ?_
  refine va_get (D := (dC, dI)) (ci := 0) (v := .int bma) (C := RX0) (T := TX0) (N := 7) hx hb hts i_X0 hown hK hP 0 rfl rfl 5 (by decide) w_0 (fun _ h9 => h9) rfl dX0_hanging_1 ?_
  refine lv_aload_n hx hb dX0_hanging_4 rfl (lv_at hl 0 rfl) ?_
  refine va_get (D := (dC, dI)) (ci := 0) (v := .int bte) (C := RX0) (T := TX0) (N := 7) hx hb hts i_X0 hown hK hP 0 rfl rfl 4 (by decide) w_1 (fun _ h9 => h9) rfl dX0_hanging_5 ?_
  refine lv_imul hx hb dX0_hanging_8 ?_
  refine lv_iconst (v := 4) hx hb dX0_hanging_9 (by decide) ?_
  refine lv_idiv hx hb dX0_hanging_10 (by decide) ?_
  refine lv_aload_n hx hb dX0_hanging_11 rfl (lv_at hl 0 rfl) ?_
  refine va_get (D := (dC, dI)) (ci := 0) (v := .int bta) (C := RX0) (T := TX0) (N := 7) hx hb hts i_X0 hown hK hP 0 rfl rfl 6 (by decide) w_2 (fun _ h9 => h9) rfl dX0_hanging_12 ?_
  refine lv_iadd hx hb dX0_hanging_15 ?_
  exact W.iret (v := (((bma * bte) / (4 : Int32)) + bta)) hx hb hr (fun t ht hW => ⟨_, rfl, hE.symm, ht⟩) (fun q h => by cases h) dX0_hanging_16
def x_X0_deflection (bln : Int32) (loa : Int64) : Int64 :=
  (((loa * bln.toInt64) * bln.toInt64) / (750000000 : Int64))
set_option maxHeartbeats 1000000 in
set_option maxRecDepth 100000 in
theorem c_X0_deflection (l : Launch) (dC : Nat → ClassId) (dI : Nat → Nat → Nat) (cyI : ClassId) (qb : Nat) (bln : Int32) (ban : Int32) (bsl : Int32) (bhe : Int32) (bte : Int32) (bma : Int32) (bta : Int32) (loa : Int64) : Met l yX0_deflection wqX0_deflection ({ frames := 0, cells := 0, slots := 0, locals := 0 } : Room) (va_Pc [.ref qb, .long loa] (pB (dC, dI) [(qb, .inr (0, [.int bln, .int ban, .int bsl, .int bhe, .int bte, .int bma, .int bta]))] [(cyI, .int)] eX)) (vp_Sl (fun r => r = (x_X0_deflection bln loa))) 0 0 aF := by
  refine Met.ofW (cc := cX0_deflection) (maxL := 3) (ret := (some .long)) (by decide) rfl ?_
  intro p e s m args below meth c s₁ B hml hv
  obtain ⟨rfl, hP, hK, he⟩ := hv
  have hx := B.exec
  have hb := B.bytes
  have hr := B.returns
  have hts := atoms_spec (ws := wqX0_deflection) B.pre
  have hown : s.vm.findClass RX0 = some m.cls := findClass_of_methodNamed B.named
  have hlocks := B.notSynchronized
  have w_0 := hts (Cond.fieldLink RX0 9 "CraneLimiter$Boom" "length" "I") (List.mem_cons_of_mem _ b_56)
  have w_1 := hts (Cond.constantLong RX0 43 (750000000)) (List.mem_cons_of_mem _ b_552)
  have i_X0 : ∀ w ∈ u_ws RX0 TX0 7, w ∈ wqX0_deflection := fun w h => List.mem_cons_of_mem _ (bX0 w h)
  have hS : va_S aF s.heap s.heap [] := va_S.rf
  have hP : va_P (dC, dI) vwCl [(qb, .inr (0, [.int bln, .int ban, .int bsl, .int bhe, .int bte, .int bma, .int bta]))] s.heap := hP
  have hl := lv_entry ([.ref qb, .long loa] : List Value) (n := 3) (Nat.le_of_ble_eq_true rfl)
  rw [lg_entry_eq]
  generalize (lg_sl ([.ref qb, .long loa] : List Value) ++ List.replicate (3 - (lg_sl ([.ref qb, .long loa] : List Value)).length) Slot.unset).toArray = ls at hl ⊢
  have hl : lv_has ls 3 [(0, .ref qb), (1, .long loa)] := hl
  have hE : x_X0_deflection bln loa = x_X0_deflection bln loa := rfl
  refine lv_lload_n hx hb dX0_deflection_0 rfl (lv_at hl 1 rfl) ?_
  refine lv_aload_n hx hb dX0_deflection_1 rfl (lv_at hl 0 rfl) ?_
  refine va_get (D := (dC, dI)) (ci := 0) (v := .int bln) (C := RX0) (T := TX0) (N := 7) hx hb hts i_X0 hown hK hP 0 rfl rfl 0 (by decide) w_0 (fun _ h9 => h9) rfl dX0_deflection_2 ?_
  refine lv_i2l hx hb dX0_deflection_5 rfl ?_
  refine lv_lmul hx hb dX0_deflection_6 ?_
  refine lv_aload_n hx hb dX0_deflection_7 rfl (lv_at hl 0 rfl) ?_
  refine va_get (D := (dC, dI)) (ci := 0) (v := .int bln) (C := RX0) (T := TX0) (N := 7) hx hb hts i_X0 hown hK hP 0 rfl rfl 0 (by decide) w_0 (fun _ h9 => h9) rfl dX0_deflection_8 ?_
  refine lv_i2l hx hb dX0_deflection_11 rfl ?_
  refine lv_lmul hx hb dX0_deflection_12 ?_
  refine lv_ldc2 (v := 750000000) hx hb hown w_1 dX0_deflection_13 ?_
  refine lv_ldiv hx hb dX0_deflection_16 (by decide) ?_
  exact W.lret (v := (((loa * bln.toInt64) * bln.toInt64) / (750000000 : Int64))) hx hb hr (fun t ht hW => ⟨_, rfl, hE.symm, ht⟩) (fun q h => by cases h) dX0_deflection_17
def x_X0_boomMoment (bln : Int32) (rad : Int32) : Int64 :=
  (((((4 : Int32) * bln) / (5 : Int32)).toInt64) * (((rad + (150 : Int32)) / (2 : Int32)).toInt64))
set_option maxHeartbeats 1000000 in
set_option maxRecDepth 100000 in
theorem c_X0_boomMoment (l : Launch) (dC : Nat → ClassId) (dI : Nat → Nat → Nat) (cyI : ClassId) (qb : Nat) (bln : Int32) (ban : Int32) (bsl : Int32) (bhe : Int32) (bte : Int32) (bma : Int32) (bta : Int32) (rad : Int32) : Met l yX0_boomMoment wqX0_boomMoment ({ frames := 0, cells := 0, slots := 0, locals := 0 } : Room) (va_Pc [.ref qb, .int rad] (pB (dC, dI) [(qb, .inr (0, [.int bln, .int ban, .int bsl, .int bhe, .int bte, .int bma, .int bta]))] [(cyI, .int)] eX)) (vp_Sl (fun r => r = (x_X0_boomMoment bln rad))) 0 0 aF := by
  refine Met.ofW (cc := cX0_boomMoment) (maxL := 2) (ret := (some .long)) (by decide) rfl ?_
  intro p e s m args below meth c s₁ B hml hv
  obtain ⟨rfl, hP, hK, he⟩ := hv
  have hx := B.exec
  have hb := B.bytes
  have hr := B.returns
  have hts := atoms_spec (ws := wqX0_boomMoment) B.pre
  have hown : s.vm.findClass RX0 = some m.cls := findClass_of_methodNamed B.named
  have hlocks := B.notSynchronized
  have w_0 := hts (Cond.fieldLink RX0 9 "CraneLimiter$Boom" "length" "I") (List.mem_cons_of_mem _ b_56)
  have i_X0 : ∀ w ∈ u_ws RX0 TX0 7, w ∈ wqX0_boomMoment := fun w h => List.mem_cons_of_mem _ (bX0 w h)
  have hS : va_S aF s.heap s.heap [] := va_S.rf
  have hP : va_P (dC, dI) vwCl [(qb, .inr (0, [.int bln, .int ban, .int bsl, .int bhe, .int bte, .int bma, .int bta]))] s.heap := hP
  have hl := lv_entry ([.ref qb, .int rad] : List Value) (n := 2) (Nat.le_of_ble_eq_true rfl)
  rw [lg_entry_eq]
  generalize (lg_sl ([.ref qb, .int rad] : List Value) ++ List.replicate (2 - (lg_sl ([.ref qb, .int rad] : List Value)).length) Slot.unset).toArray = ls at hl ⊢
  have hl : lv_has ls 2 [(0, .ref qb), (1, .int rad)] := hl
  have hE : x_X0_boomMoment bln rad = x_X0_boomMoment bln rad := rfl
  refine lv_iconst (v := 4) hx hb dX0_boomMoment_0 (by decide) ?_
  refine lv_aload_n hx hb dX0_boomMoment_1 rfl (lv_at hl 0 rfl) ?_
  refine va_get (D := (dC, dI)) (ci := 0) (v := .int bln) (C := RX0) (T := TX0) (N := 7) hx hb hts i_X0 hown hK hP 0 rfl rfl 0 (by decide) w_0 (fun _ h9 => h9) rfl dX0_boomMoment_2 ?_
  refine lv_imul hx hb dX0_boomMoment_5 ?_
  refine lv_iconst (v := 5) hx hb dX0_boomMoment_6 (by decide) ?_
  refine lv_idiv hx hb dX0_boomMoment_7 (by decide) ?_
  refine lv_i2l hx hb dX0_boomMoment_8 rfl ?_
  refine lv_iload_n hx hb dX0_boomMoment_9 rfl (lv_at hl 1 rfl) ?_
  refine lv_sipush (v := 150) hx hb dX0_boomMoment_10 (by decide) ?_
  refine lv_iadd hx hb dX0_boomMoment_13 ?_
  refine lv_iconst (v := 2) hx hb dX0_boomMoment_14 (by decide) ?_
  refine lv_idiv hx hb dX0_boomMoment_15 (by decide) ?_
  refine lv_i2l hx hb dX0_boomMoment_16 rfl ?_
  refine lv_lmul hx hb dX0_boomMoment_17 ?_
  exact W.lret (v := (((((4 : Int32) * bln) / (5 : Int32)).toInt64) * (((rad + (150 : Int32)) / (2 : Int32)).toInt64))) hx hb hr (fun t ht hW => ⟨_, rfl, hE.symm, ht⟩) (fun q h => by cases h) dX0_boomMoment_18
set_option maxHeartbeats 1000000 in
set_option maxRecDepth 100000 in
theorem c_X0_copyFrom (l : Launch) (dC : Nat → ClassId) (dI : Nat → Nat → Nat) (cyI : ClassId) (sz : Nat) (qb : Nat) (bln : Int32) (ban : Int32) (bsl : Int32) (bhe : Int32) (bte : Int32) (bma : Int32) (bta : Int32) (qo : Nat) (oln : Int32) (oan : Int32) (osl : Int32) (ohe : Int32) (ote : Int32) (oma : Int32) (ota : Int32) : Met l yX0_copyFrom wqX0_copyFrom ({ frames := 0, cells := 0, slots := 0, locals := 0 } : Room) (va_Pc [.ref qb, .ref qo] (pC (dC, dI) [(qb, .inr (0, [.int bln, .int ban, .int bsl, .int bhe, .int bte, .int bma, .int bta])), (qo, .inr (0, [.int oln, .int oan, .int osl, .int ohe, .int ote, .int oma, .int ota]))] [(cyI, .int)] eX sz)) (va_Qv (fun u : Unit => True) (fun (u : Unit) t => va_P (dC, dI) vwCl [(qb, .inr (0, [.int oln, .int oan, .int osl, .int ohe, .int ote, .int oma, .int ota])), (qo, .inr (0, [.int oln, .int oan, .int osl, .int ohe, .int ote, .int oma, .int ota]))] t.heap ∧ va_D (va_A [(qb, .inr (0, [.int bln, .int ban, .int bsl, .int bhe, .int bte, .int bma, .int bta])), (qo, .inr (0, [.int oln, .int oan, .int osl, .int ohe, .int ote, .int oma, .int ota]))] sz) [(qb, .inr (0, [.int oln, .int oan, .int osl, .int ohe, .int ote, .int oma, .int ota])), (qo, .inr (0, [.int oln, .int oan, .int osl, .int ohe, .int ote, .int oma, .int ota]))]) (va_A [(qb, .inr (0, [.int bln, .int ban, .int bsl, .int bhe, .int bte, .int bma, .int bta])), (qo, .inr (0, [.int oln, .int oan, .int osl, .int ohe, .int ote, .int oma, .int ota]))] sz)) 0 0 (va_A [(qb, .inr (0, [.int bln, .int ban, .int bsl, .int bhe, .int bte, .int bma, .int bta])), (qo, .inr (0, [.int oln, .int oan, .int osl, .int ohe, .int ote, .int oma, .int ota]))] sz) := by
  refine Met.ofW (cc := cX0_copyFrom) (maxL := 2) (ret := none) (by decide) rfl ?_
  intro p e s m args below meth c s₁ B hml hv
  obtain ⟨rfl, hsz, hP, hK, hD0, he⟩ := hv
  have hx := B.exec
  have hb := B.bytes
  have hr := B.returns
  have hts := atoms_spec (ws := wqX0_copyFrom) B.pre
  have hown : s.vm.findClass RX0 = some m.cls := findClass_of_methodNamed B.named
  have hlocks := B.notSynchronized
  have w_0 := hts (Cond.fieldLink RX0 9 "CraneLimiter$Boom" "length" "I") (List.mem_cons_of_mem _ b_56)
  have w_1 := hts (Cond.fieldLink RX0 15 "CraneLimiter$Boom" "angle" "I") (List.mem_cons_of_mem _ b_57)
  have w_2 := hts (Cond.fieldLink RX0 21 "CraneLimiter$Boom" "slew" "I") (List.mem_cons_of_mem _ b_142)
  have w_3 := hts (Cond.fieldLink RX0 24 "CraneLimiter$Boom" "height" "I") (List.mem_cons_of_mem _ b_143)
  have w_4 := hts (Cond.fieldLink RX0 27 "CraneLimiter$Boom" "tension" "I") (List.mem_cons_of_mem _ b_144)
  have w_5 := hts (Cond.fieldLink RX0 30 "CraneLimiter$Boom" "mass" "I") (List.mem_cons_of_mem _ b_145)
  have w_6 := hts (Cond.fieldLink RX0 18 "CraneLimiter$Boom" "tare" "I") (List.mem_cons_of_mem _ b_58)
  have i_X0 : ∀ w ∈ u_ws RX0 TX0 7, w ∈ wqX0_copyFrom := fun w h => List.mem_cons_of_mem _ (bX0 w h)
  subst hsz
  have hD := hD0.self (sz := s.heap.size)
  generalize hAe : va_A [(qb, .inr (0, [.int bln, .int ban, .int bsl, .int bhe, .int bte, .int bma, .int bta])), (qo, .inr (0, [.int oln, .int oan, .int osl, .int ohe, .int ote, .int oma, .int ota]))] s.heap.size = A at hD he ⊢
  have hA : ∀ q : Nat, s.heap.size ≤ q → A q := fun q h => by rw [← hAe]; exact Or.inr h
  have hS : va_S A s.heap s.heap [] := va_S.rf
  have hP : va_P (dC, dI) vwCl [(qb, .inr (0, [.int bln, .int ban, .int bsl, .int bhe, .int bte, .int bma, .int bta])), (qo, .inr (0, [.int oln, .int oan, .int osl, .int ohe, .int ote, .int oma, .int ota]))] s.heap := hP
  have hl := lv_entry ([.ref qb, .ref qo] : List Value) (n := 2) (Nat.le_of_ble_eq_true rfl)
  rw [lg_entry_eq]
  generalize (lg_sl ([.ref qb, .ref qo] : List Value) ++ List.replicate (2 - (lg_sl ([.ref qb, .ref qo] : List Value)).length) Slot.unset).toArray = ls at hl ⊢
  have hl : lv_has ls 2 [(0, .ref qb), (1, .ref qo)] := hl
  have hE : True := trivial
  refine lv_aload_n hx hb dX0_copyFrom_0 rfl (lv_at hl 0 rfl) ?_
  refine lv_aload_n hx hb dX0_copyFrom_1 rfl (lv_at hl 1 rfl) ?_
  refine va_get (D := (dC, dI)) (ci := 0) (v := .int oln) (C := RX0) (T := TX0) (N := 7) hx hb hts i_X0 hown hK hP 1 rfl rfl 0 (by decide) w_0 (fun _ h9 => h9) rfl dX0_copyFrom_2 ?_
  refine va_put (D := (dC, dI)) (ci := 0) (v := .int oln) (ty := .int) (C := RX0) (T := TX0) (N := 7) hx hb hts i_X0 tyX0 tyX0_ok nmX0 hown hK hP hD hS 0 rfl rfl 0 (by decide) w_0 (fun _ h9 => h9) rfl (by decide +kernel) (rfl) (rfl) (Nat.le_of_ble_eq_true rfl) dX0_copyFrom_5 (fun H locs hP hD hS => ?_)
  have hP : va_P (dC, dI) vwCl [(qb, .inr (0, [.int oln, .int ban, .int bsl, .int bhe, .int bte, .int bma, .int bta])), (qo, .inr (0, [.int oln, .int oan, .int osl, .int ohe, .int ote, .int oma, .int ota]))] H := hP
  have hD : va_D A [(qb, .inr (0, [.int oln, .int ban, .int bsl, .int bhe, .int bte, .int bma, .int bta])), (qo, .inr (0, [.int oln, .int oan, .int osl, .int ohe, .int ote, .int oma, .int ota]))] := hD
  refine lv_aload_n hx hb dX0_copyFrom_8 rfl (lv_at hl 0 rfl) ?_
  refine lv_aload_n hx hb dX0_copyFrom_9 rfl (lv_at hl 1 rfl) ?_
  refine va_get (D := (dC, dI)) (ci := 0) (v := .int oan) (C := RX0) (T := TX0) (N := 7) hx hb hts i_X0 hown hK hP 1 rfl rfl 1 (by decide) w_1 (fun _ h9 => h9) rfl dX0_copyFrom_10 ?_
  refine va_put (D := (dC, dI)) (ci := 0) (v := .int oan) (ty := .int) (C := RX0) (T := TX0) (N := 7) hx hb hts i_X0 tyX0 tyX0_ok nmX0 hown hK hP hD hS 0 rfl rfl 1 (by decide) w_1 (fun _ h9 => h9) rfl (by decide +kernel) (rfl) (rfl) (Nat.le_of_ble_eq_true rfl) dX0_copyFrom_13 (fun H locs hP hD hS => ?_)
  have hP : va_P (dC, dI) vwCl [(qb, .inr (0, [.int oln, .int oan, .int bsl, .int bhe, .int bte, .int bma, .int bta])), (qo, .inr (0, [.int oln, .int oan, .int osl, .int ohe, .int ote, .int oma, .int ota]))] H := hP
  have hD : va_D A [(qb, .inr (0, [.int oln, .int oan, .int bsl, .int bhe, .int bte, .int bma, .int bta])), (qo, .inr (0, [.int oln, .int oan, .int osl, .int ohe, .int ote, .int oma, .int ota]))] := hD
  refine lv_aload_n hx hb dX0_copyFrom_16 rfl (lv_at hl 0 rfl) ?_
  refine lv_aload_n hx hb dX0_copyFrom_17 rfl (lv_at hl 1 rfl) ?_
  refine va_get (D := (dC, dI)) (ci := 0) (v := .int osl) (C := RX0) (T := TX0) (N := 7) hx hb hts i_X0 hown hK hP 1 rfl rfl 2 (by decide) w_2 (fun _ h9 => h9) rfl dX0_copyFrom_18 ?_
  refine va_put (D := (dC, dI)) (ci := 0) (v := .int osl) (ty := .int) (C := RX0) (T := TX0) (N := 7) hx hb hts i_X0 tyX0 tyX0_ok nmX0 hown hK hP hD hS 0 rfl rfl 2 (by decide) w_2 (fun _ h9 => h9) rfl (by decide +kernel) (rfl) (rfl) (Nat.le_of_ble_eq_true rfl) dX0_copyFrom_21 (fun H locs hP hD hS => ?_)
  have hP : va_P (dC, dI) vwCl [(qb, .inr (0, [.int oln, .int oan, .int osl, .int bhe, .int bte, .int bma, .int bta])), (qo, .inr (0, [.int oln, .int oan, .int osl, .int ohe, .int ote, .int oma, .int ota]))] H := hP
  have hD : va_D A [(qb, .inr (0, [.int oln, .int oan, .int osl, .int bhe, .int bte, .int bma, .int bta])), (qo, .inr (0, [.int oln, .int oan, .int osl, .int ohe, .int ote, .int oma, .int ota]))] := hD
  refine lv_aload_n hx hb dX0_copyFrom_24 rfl (lv_at hl 0 rfl) ?_
  refine lv_aload_n hx hb dX0_copyFrom_25 rfl (lv_at hl 1 rfl) ?_
  refine va_get (D := (dC, dI)) (ci := 0) (v := .int ohe) (C := RX0) (T := TX0) (N := 7) hx hb hts i_X0 hown hK hP 1 rfl rfl 3 (by decide) w_3 (fun _ h9 => h9) rfl dX0_copyFrom_26 ?_
  refine va_put (D := (dC, dI)) (ci := 0) (v := .int ohe) (ty := .int) (C := RX0) (T := TX0) (N := 7) hx hb hts i_X0 tyX0 tyX0_ok nmX0 hown hK hP hD hS 0 rfl rfl 3 (by decide) w_3 (fun _ h9 => h9) rfl (by decide +kernel) (rfl) (rfl) (Nat.le_of_ble_eq_true rfl) dX0_copyFrom_29 (fun H locs hP hD hS => ?_)
  have hP : va_P (dC, dI) vwCl [(qb, .inr (0, [.int oln, .int oan, .int osl, .int ohe, .int bte, .int bma, .int bta])), (qo, .inr (0, [.int oln, .int oan, .int osl, .int ohe, .int ote, .int oma, .int ota]))] H := hP
  have hD : va_D A [(qb, .inr (0, [.int oln, .int oan, .int osl, .int ohe, .int bte, .int bma, .int bta])), (qo, .inr (0, [.int oln, .int oan, .int osl, .int ohe, .int ote, .int oma, .int ota]))] := hD
  refine lv_aload_n hx hb dX0_copyFrom_32 rfl (lv_at hl 0 rfl) ?_
  refine lv_aload_n hx hb dX0_copyFrom_33 rfl (lv_at hl 1 rfl) ?_
  refine va_get (D := (dC, dI)) (ci := 0) (v := .int ote) (C := RX0) (T := TX0) (N := 7) hx hb hts i_X0 hown hK hP 1 rfl rfl 4 (by decide) w_4 (fun _ h9 => h9) rfl dX0_copyFrom_34 ?_
  refine va_put (D := (dC, dI)) (ci := 0) (v := .int ote) (ty := .int) (C := RX0) (T := TX0) (N := 7) hx hb hts i_X0 tyX0 tyX0_ok nmX0 hown hK hP hD hS 0 rfl rfl 4 (by decide) w_4 (fun _ h9 => h9) rfl (by decide +kernel) (rfl) (rfl) (Nat.le_of_ble_eq_true rfl) dX0_copyFrom_37 (fun H locs hP hD hS => ?_)
  have hP : va_P (dC, dI) vwCl [(qb, .inr (0, [.int oln, .int oan, .int osl, .int ohe, .int ote, .int bma, .int bta])), (qo, .inr (0, [.int oln, .int oan, .int osl, .int ohe, .int ote, .int oma, .int ota]))] H := hP
  have hD : va_D A [(qb, .inr (0, [.int oln, .int oan, .int osl, .int ohe, .int ote, .int bma, .int bta])), (qo, .inr (0, [.int oln, .int oan, .int osl, .int ohe, .int ote, .int oma, .int ota]))] := hD
  refine lv_aload_n hx hb dX0_copyFrom_40 rfl (lv_at hl 0 rfl) ?_
  refine lv_aload_n hx hb dX0_copyFrom_41 rfl (lv_at hl 1 rfl) ?_
  refine va_get (D := (dC, dI)) (ci := 0) (v := .int oma) (C := RX0) (T := TX0) (N := 7) hx hb hts i_X0 hown hK hP 1 rfl rfl 5 (by decide) w_5 (fun _ h9 => h9) rfl dX0_copyFrom_42 ?_
  refine va_put (D := (dC, dI)) (ci := 0) (v := .int oma) (ty := .int) (C := RX0) (T := TX0) (N := 7) hx hb hts i_X0 tyX0 tyX0_ok nmX0 hown hK hP hD hS 0 rfl rfl 5 (by decide) w_5 (fun _ h9 => h9) rfl (by decide +kernel) (rfl) (rfl) (Nat.le_of_ble_eq_true rfl) dX0_copyFrom_45 (fun H locs hP hD hS => ?_)
  have hP : va_P (dC, dI) vwCl [(qb, .inr (0, [.int oln, .int oan, .int osl, .int ohe, .int ote, .int oma, .int bta])), (qo, .inr (0, [.int oln, .int oan, .int osl, .int ohe, .int ote, .int oma, .int ota]))] H := hP
  have hD : va_D A [(qb, .inr (0, [.int oln, .int oan, .int osl, .int ohe, .int ote, .int oma, .int bta])), (qo, .inr (0, [.int oln, .int oan, .int osl, .int ohe, .int ote, .int oma, .int ota]))] := hD
  refine lv_aload_n hx hb dX0_copyFrom_48 rfl (lv_at hl 0 rfl) ?_
  refine lv_aload_n hx hb dX0_copyFrom_49 rfl (lv_at hl 1 rfl) ?_
  refine va_get (D := (dC, dI)) (ci := 0) (v := .int ota) (C := RX0) (T := TX0) (N := 7) hx hb hts i_X0 hown hK hP 1 rfl rfl 6 (by decide) w_6 (fun _ h9 => h9) rfl dX0_copyFrom_50 ?_
  refine va_put (D := (dC, dI)) (ci := 0) (v := .int ota) (ty := .int) (C := RX0) (T := TX0) (N := 7) hx hb hts i_X0 tyX0 tyX0_ok nmX0 hown hK hP hD hS 0 rfl rfl 6 (by decide) w_6 (fun _ h9 => h9) rfl (by decide +kernel) (rfl) (rfl) (Nat.le_of_ble_eq_true rfl) dX0_copyFrom_53 (fun H locs hP hD hS => ?_)
  have hP : va_P (dC, dI) vwCl [(qb, .inr (0, [.int oln, .int oan, .int osl, .int ohe, .int ote, .int oma, .int ota])), (qo, .inr (0, [.int oln, .int oan, .int osl, .int ohe, .int ote, .int oma, .int ota]))] H := hP
  have hD : va_D A [(qb, .inr (0, [.int oln, .int oan, .int osl, .int ohe, .int ote, .int oma, .int ota])), (qo, .inr (0, [.int oln, .int oan, .int osl, .int ohe, .int ote, .int oma, .int ota]))] := hD
  exact W.vret hx hb hr (fun t h9 hW => ⟨⟨(() : Unit), rfl, trivial, by rw [h9]; exact hP, hD⟩, hS.F h9⟩) hS.2.2 dX0_copyFrom_56
def x_X0_place (nl : Int32) (na : Int32) (ns : Int32) : Int32 × Int32 × Int32 × Int32 :=
  (nl, na, ns, (0 : Int32))
set_option maxHeartbeats 1000000 in
set_option maxRecDepth 100000 in
theorem c_X0_place (l : Launch) (dC : Nat → ClassId) (dI : Nat → Nat → Nat) (cyI : ClassId) (sz : Nat) (qb : Nat) (bln : Int32) (ban : Int32) (bsl : Int32) (bhe : Int32) (bte : Int32) (bma : Int32) (bta : Int32) (nl : Int32) (na : Int32) (ns : Int32) : Met l yX0_place wqX0_place ({ frames := 0, cells := 0, slots := 0, locals := 0 } : Room) (va_Pc [.ref qb, .int nl, .int na, .int ns] (pC (dC, dI) [(qb, .inr (0, [.int bln, .int ban, .int bsl, .int bhe, .int bte, .int bma, .int bta]))] [(cyI, .int)] eX sz)) (va_Qv (fun u : Int32 × Int32 × Int32 × Int32 => u = (x_X0_place nl na ns)) (fun (u : Int32 × Int32 × Int32 × Int32) t => va_P (dC, dI) vwCl [(qb, .inr (0, [.int (u.1), .int (u.2.1), .int (u.2.2.1), .int (u.2.2.2), .int bte, .int bma, .int bta]))] t.heap ∧ va_D (va_A [(qb, .inr (0, [.int bln, .int ban, .int bsl, .int bhe, .int bte, .int bma, .int bta]))] sz) [(qb, .inr (0, [.int (u.1), .int (u.2.1), .int (u.2.2.1), .int (u.2.2.2), .int bte, .int bma, .int bta]))]) (va_A [(qb, .inr (0, [.int bln, .int ban, .int bsl, .int bhe, .int bte, .int bma, .int bta]))] sz)) 0 0 (va_A [(qb, .inr (0, [.int bln, .int ban, .int bsl, .int bhe, .int bte, .int bma, .int bta]))] sz) := by
  refine Met.ofW (cc := cX0_place) (maxL := 4) (ret := none) (by decide) rfl ?_
  intro p e s m args below meth c s₁ B hml hv
  obtain ⟨rfl, hsz, hP, hK, hD0, he⟩ := hv
  have hx := B.exec
  have hb := B.bytes
  have hr := B.returns
  have hts := atoms_spec (ws := wqX0_place) B.pre
  have hown : s.vm.findClass RX0 = some m.cls := findClass_of_methodNamed B.named
  have hlocks := B.notSynchronized
  have w_0 := hts (Cond.fieldLink RX0 9 "CraneLimiter$Boom" "length" "I") (List.mem_cons_of_mem _ b_56)
  have w_1 := hts (Cond.fieldLink RX0 15 "CraneLimiter$Boom" "angle" "I") (List.mem_cons_of_mem _ b_57)
  have w_2 := hts (Cond.fieldLink RX0 21 "CraneLimiter$Boom" "slew" "I") (List.mem_cons_of_mem _ b_142)
  have w_3 := hts (Cond.fieldLink RX0 24 "CraneLimiter$Boom" "height" "I") (List.mem_cons_of_mem _ b_143)
  have i_X0 : ∀ w ∈ u_ws RX0 TX0 7, w ∈ wqX0_place := fun w h => List.mem_cons_of_mem _ (bX0 w h)
  subst hsz
  have hD := hD0.self (sz := s.heap.size)
  generalize hAe : va_A [(qb, .inr (0, [.int bln, .int ban, .int bsl, .int bhe, .int bte, .int bma, .int bta]))] s.heap.size = A at hD he ⊢
  have hA : ∀ q : Nat, s.heap.size ≤ q → A q := fun q h => by rw [← hAe]; exact Or.inr h
  have hS : va_S A s.heap s.heap [] := va_S.rf
  have hP : va_P (dC, dI) vwCl [(qb, .inr (0, [.int bln, .int ban, .int bsl, .int bhe, .int bte, .int bma, .int bta]))] s.heap := hP
  have hl := lv_entry ([.ref qb, .int nl, .int na, .int ns] : List Value) (n := 4) (Nat.le_of_ble_eq_true rfl)
  rw [lg_entry_eq]
  generalize (lg_sl ([.ref qb, .int nl, .int na, .int ns] : List Value) ++ List.replicate (4 - (lg_sl ([.ref qb, .int nl, .int na, .int ns] : List Value)).length) Slot.unset).toArray = ls at hl ⊢
  have hl : lv_has ls 4 [(0, .ref qb), (1, .int nl), (2, .int na), (3, .int ns)] := hl
  have hE : x_X0_place nl na ns = x_X0_place nl na ns := rfl
  refine lv_aload_n hx hb dX0_place_0 rfl (lv_at hl 0 rfl) ?_
  refine lv_iload_n hx hb dX0_place_1 rfl (lv_at hl 1 rfl) ?_
  refine va_put (D := (dC, dI)) (ci := 0) (v := .int nl) (ty := .int) (C := RX0) (T := TX0) (N := 7) hx hb hts i_X0 tyX0 tyX0_ok nmX0 hown hK hP hD hS 0 rfl rfl 0 (by decide) w_0 (fun _ h9 => h9) rfl (by decide +kernel) (rfl) (rfl) (Nat.le_of_ble_eq_true rfl) dX0_place_2 (fun H locs hP hD hS => ?_)
  have hP : va_P (dC, dI) vwCl [(qb, .inr (0, [.int nl, .int ban, .int bsl, .int bhe, .int bte, .int bma, .int bta]))] H := hP
  have hD : va_D A [(qb, .inr (0, [.int nl, .int ban, .int bsl, .int bhe, .int bte, .int bma, .int bta]))] := hD
  refine lv_aload_n hx hb dX0_place_5 rfl (lv_at hl 0 rfl) ?_
  refine lv_iload_n hx hb dX0_place_6 rfl (lv_at hl 2 rfl) ?_
  refine va_put (D := (dC, dI)) (ci := 0) (v := .int na) (ty := .int) (C := RX0) (T := TX0) (N := 7) hx hb hts i_X0 tyX0 tyX0_ok nmX0 hown hK hP hD hS 0 rfl rfl 1 (by decide) w_1 (fun _ h9 => h9) rfl (by decide +kernel) (rfl) (rfl) (Nat.le_of_ble_eq_true rfl) dX0_place_7 (fun H locs hP hD hS => ?_)
  have hP : va_P (dC, dI) vwCl [(qb, .inr (0, [.int nl, .int na, .int bsl, .int bhe, .int bte, .int bma, .int bta]))] H := hP
  have hD : va_D A [(qb, .inr (0, [.int nl, .int na, .int bsl, .int bhe, .int bte, .int bma, .int bta]))] := hD
  refine lv_aload_n hx hb dX0_place_10 rfl (lv_at hl 0 rfl) ?_
  refine lv_iload_n hx hb dX0_place_11 rfl (lv_at hl 3 rfl) ?_
  refine va_put (D := (dC, dI)) (ci := 0) (v := .int ns) (ty := .int) (C := RX0) (T := TX0) (N := 7) hx hb hts i_X0 tyX0 tyX0_ok nmX0 hown hK hP hD hS 0 rfl rfl 2 (by decide) w_2 (fun _ h9 => h9) rfl (by decide +kernel) (rfl) (rfl) (Nat.le_of_ble_eq_true rfl) dX0_place_12 (fun H locs hP hD hS => ?_)
  have hP : va_P (dC, dI) vwCl [(qb, .inr (0, [.int nl, .int na, .int ns, .int bhe, .int bte, .int bma, .int bta]))] H := hP
  have hD : va_D A [(qb, .inr (0, [.int nl, .int na, .int ns, .int bhe, .int bte, .int bma, .int bta]))] := hD
  refine lv_aload_n hx hb dX0_place_15 rfl (lv_at hl 0 rfl) ?_
  refine lv_iconst (v := 0) hx hb dX0_place_16 (by decide) ?_
  refine va_put (D := (dC, dI)) (ci := 0) (v := .int (0 : Int32)) (ty := .int) (C := RX0) (T := TX0) (N := 7) hx hb hts i_X0 tyX0 tyX0_ok nmX0 hown hK hP hD hS 0 rfl rfl 3 (by decide) w_3 (fun _ h9 => h9) rfl (by decide +kernel) (rfl) (rfl) (Nat.le_of_ble_eq_true rfl) dX0_place_17 (fun H locs hP hD hS => ?_)
  have hP : va_P (dC, dI) vwCl [(qb, .inr (0, [.int nl, .int na, .int ns, .int (0 : Int32), .int bte, .int bma, .int bta]))] H := hP
  have hD : va_D A [(qb, .inr (0, [.int nl, .int na, .int ns, .int (0 : Int32), .int bte, .int bma, .int bta]))] := hD
  exact W.vret hx hb hr (fun t h9 hW => ⟨⟨((nl, na, ns, (0 : Int32)) : Int32 × Int32 × Int32 × Int32), rfl, hE.symm, by rw [h9]; exact hP, hD⟩, hS.F h9⟩) hS.2.2 dX0_place_20
def x_X0_takesUpLoad (bte : Int32) (bma : Int32) : Int32 :=
  if bma ≤ 0 then (0 : Int32) else (if (4 : Int32) ≤ bte then (0 : Int32) else (1 : Int32))
set_option maxHeartbeats 1000000 in
set_option maxRecDepth 100000 in
theorem c_X0_takesUpLoad (l : Launch) (dC : Nat → ClassId) (dI : Nat → Nat → Nat) (cyI : ClassId) (qb : Nat) (bln : Int32) (ban : Int32) (bsl : Int32) (bhe : Int32) (bte : Int32) (bma : Int32) (bta : Int32) : Met l yX0_takesUpLoad wqX0_takesUpLoad ({ frames := 0, cells := 0, slots := 0, locals := 0 } : Room) (va_Pc [.ref qb] (pB (dC, dI) [(qb, .inr (0, [.int bln, .int ban, .int bsl, .int bhe, .int bte, .int bma, .int bta]))] [(cyI, .int)] eX)) (vp_Si (fun r => r = (x_X0_takesUpLoad bte bma) ∧ (r = 0 ∨ r = 1))) 0 0 aF := by
  refine Met.ofW (cc := cX0_takesUpLoad) (maxL := 1) (ret := (some .boolean)) (by decide) rfl ?_
  intro p e s m args below meth c s₁ B hml hv
  obtain ⟨rfl, hP, hK, he⟩ := hv
  have hx := B.exec
  have hb := B.bytes
  have hr := B.returns
  have hts := atoms_spec (ws := wqX0_takesUpLoad) B.pre
  have hown : s.vm.findClass RX0 = some m.cls := findClass_of_methodNamed B.named
  have hlocks := B.notSynchronized
  have w_0 := hts (Cond.fieldLink RX0 30 "CraneLimiter$Boom" "mass" "I") (List.mem_cons_of_mem _ b_145)
  have w_1 := hts (Cond.fieldLink RX0 27 "CraneLimiter$Boom" "tension" "I") (List.mem_cons_of_mem _ b_144)
  have i_X0 : ∀ w ∈ u_ws RX0 TX0 7, w ∈ wqX0_takesUpLoad := fun w h => List.mem_cons_of_mem _ (bX0 w h)
  have hS : va_S aF s.heap s.heap [] := va_S.rf
  have hP : va_P (dC, dI) vwCl [(qb, .inr (0, [.int bln, .int ban, .int bsl, .int bhe, .int bte, .int bma, .int bta]))] s.heap := hP
  have hl := lv_entry ([.ref qb] : List Value) (n := 1) (Nat.le_of_ble_eq_true rfl)
  rw [lg_entry_eq]
  generalize (lg_sl ([.ref qb] : List Value) ++ List.replicate (1 - (lg_sl ([.ref qb] : List Value)).length) Slot.unset).toArray = ls at hl ⊢
  have hl : lv_has ls 1 [(0, .ref qb)] := hl
  have hE : x_X0_takesUpLoad bte bma = x_X0_takesUpLoad bte bma := rfl
  refine lv_aload_n hx hb dX0_takesUpLoad_0 rfl (lv_at hl 0 rfl) ?_
  refine va_get (D := (dC, dI)) (ci := 0) (v := .int bma) (C := RX0) (T := TX0) (N := 7) hx hb hts i_X0 hown hK hP 0 rfl rfl 5 (by decide) w_0 (fun _ h9 => h9) rfl dX0_takesUpLoad_1 ?_
  refine lv_if_le (tgt := 19) hx hb dX0_takesUpLoad_4 (by decide) (fun c_1 => ?_) (fun c_1 => ?_)
  ·
    have hE := hE.trans (if_pos c_1)
    refine lv_iconst (v := 0) hx hb dX0_takesUpLoad_19 (by decide) ?_
    exact W.zret (v := (0 : Int32)) hx hb hr rfl (fun t ht hW => ⟨_, rfl, ⟨hE.symm, (by decide)⟩, ht⟩) (fun q h => by cases h) dX0_takesUpLoad_20
  ·
    have hE := hE.trans (if_neg c_1)
    refine lv_aload_n hx hb dX0_takesUpLoad_7 rfl (lv_at hl 0 rfl) ?_
    refine va_get (D := (dC, dI)) (ci := 0) (v := .int bte) (C := RX0) (T := TX0) (N := 7) hx hb hts i_X0 hown hK hP 0 rfl rfl 4 (by decide) w_1 (fun _ h9 => h9) rfl dX0_takesUpLoad_8 ?_
    refine lv_iconst (v := 4) hx hb dX0_takesUpLoad_11 (by decide) ?_
    refine lv_icmp_ge (tgt := 19) hx hb dX0_takesUpLoad_12 (by decide) (fun c_2 => ?_) (fun c_2 => ?_)
    ·
      have hE := hE.trans (if_pos c_2)
      refine lv_iconst (v := 0) hx hb dX0_takesUpLoad_19 (by decide) ?_
      exact W.zret (v := (0 : Int32)) hx hb hr rfl (fun t ht hW => ⟨_, rfl, ⟨hE.symm, (by decide)⟩, ht⟩) (fun q h => by cases h) dX0_takesUpLoad_20
    ·
      have hE := hE.trans (if_neg c_2)
      refine lv_iconst (v := 1) hx hb dX0_takesUpLoad_15 (by decide) ?_
      refine lv_goto (tgt := 20) hx hb dX0_takesUpLoad_16 (by decide) ?_
      exact W.zret (v := (1 : Int32)) hx hb hr rfl (fun t ht hW => ⟨_, rfl, ⟨hE.symm, (by decide)⟩, ht⟩) (fun q h => by cases h) dX0_takesUpLoad_20
def x_X0_hoistUp (bhe : Int32) (bte : Int32) (bma : Int32) (ste : Int32) : Int32 × Int32 :=
  spLet (x_X0_takesUpLoad bte bma) (fun r_1 => if r_1 = 0 then (spLet ((bhe + ste)) (fun x_3 => (x_3, bte))) else (spLet ((bte + (1 : Int32))) (fun x_4 => (bhe, x_4))))
set_option maxHeartbeats 1000000 in
set_option maxRecDepth 100000 in
theorem c_X0_hoistUp (l : Launch) (dC : Nat → ClassId) (dI : Nat → Nat → Nat) (cyI : ClassId) (sz : Nat) (qb : Nat) (bln : Int32) (ban : Int32) (bsl : Int32) (bhe : Int32) (bte : Int32) (bma : Int32) (bta : Int32) (ste : Int32) : Met l yX0_hoistUp wqX0_hoistUp ({ frames := 1, cells := 0, slots := 0, locals := 20 } : Room) (va_Pc [.ref qb, .int ste] (pC (dC, dI) [(qb, .inr (0, [.int bln, .int ban, .int bsl, .int bhe, .int bte, .int bma, .int bta]))] [(cyI, .int)] eX sz)) (va_Qv (fun u : Int32 × Int32 => u = (x_X0_hoistUp bhe bte bma ste)) (fun (u : Int32 × Int32) t => va_P (dC, dI) vwCl [(qb, .inr (0, [.int bln, .int ban, .int bsl, .int (u.1), .int (u.2), .int bma, .int bta]))] t.heap ∧ va_D (va_A [(qb, .inr (0, [.int bln, .int ban, .int bsl, .int bhe, .int bte, .int bma, .int bta]))] sz) [(qb, .inr (0, [.int bln, .int ban, .int bsl, .int (u.1), .int (u.2), .int bma, .int bta]))]) (va_A [(qb, .inr (0, [.int bln, .int ban, .int bsl, .int bhe, .int bte, .int bma, .int bta]))] sz)) 0 0 (va_A [(qb, .inr (0, [.int bln, .int ban, .int bsl, .int bhe, .int bte, .int bma, .int bta]))] sz) := by
  refine Met.ofW (cc := cX0_hoistUp) (maxL := 2) (ret := none) (by decide) rfl ?_
  intro p e s m args below meth c s₁ B hml hv
  obtain ⟨rfl, hsz, hP, hK, hD0, he⟩ := hv
  have hx := B.exec
  have hb := B.bytes
  have hr := B.returns
  have hts := atoms_spec (ws := wqX0_hoistUp) B.pre
  have hown : s.vm.findClass RX0 = some m.cls := findClass_of_methodNamed B.named
  have hlocks := B.notSynchronized
  have w_0 := hts (Cond.fieldLink RX0 24 "CraneLimiter$Boom" "height" "I") (List.mem_cons_of_mem _ b_143)
  have w_1 := hts (Cond.fieldLink RX0 27 "CraneLimiter$Boom" "tension" "I") (List.mem_cons_of_mem _ b_144)
  have i_X0 : ∀ w ∈ u_ws RX0 TX0 7, w ∈ wqX0_hoistUp := fun w h => List.mem_cons_of_mem _ (bX0 w h)
  subst hsz
  have hD := hD0.self (sz := s.heap.size)
  generalize hAe : va_A [(qb, .inr (0, [.int bln, .int ban, .int bsl, .int bhe, .int bte, .int bma, .int bta]))] s.heap.size = A at hD he ⊢
  have hA : ∀ q : Nat, s.heap.size ≤ q → A q := fun q h => by rw [← hAe]; exact Or.inr h
  have hS : va_S A s.heap s.heap [] := va_S.rf
  have hP : va_P (dC, dI) vwCl [(qb, .inr (0, [.int bln, .int ban, .int bsl, .int bhe, .int bte, .int bma, .int bta]))] s.heap := hP
  have hl := lv_entry ([.ref qb, .int ste] : List Value) (n := 2) (Nat.le_of_ble_eq_true rfl)
  rw [lg_entry_eq]
  generalize (lg_sl ([.ref qb, .int ste] : List Value) ++ List.replicate (2 - (lg_sl ([.ref qb, .int ste] : List Value)).length) Slot.unset).toArray = ls at hl ⊢
  have hl : lv_has ls 2 [(0, .ref qb), (1, .int ste)] := hl
  have hE : x_X0_hoistUp bhe bte bma ste = x_X0_hoistUp bhe bte bma ste := rfl
  refine lv_aload_n hx hb dX0_hoistUp_0 rfl (lv_at hl 0 rfl) ?_
  refine vp_callSi (W.runV (As := []) (rest := []) ⟨hx, hb, hml, hown, hts⟩ (c_X0_takesUpLoad l dC dI cyI qb bln ban bsl bhe bte bma bta) (cwV 0 hts (gBV b_490 b_491 b_492 b_30 b_493) rfl rfl rfl (by decide +kernel) ⟨Nat.le_of_ble_eq_true rfl, Nat.le_of_ble_eq_true rfl⟩) (pre_v eX_ok he hS hP hK 0 rfl rfl rfl) rfl rfl hl.1 rfl (lv_room (Nat.le_of_ble_eq_true rfl)) dX0_hoistUp_1 ⟨Nat.zero_le _, Nat.zero_le _⟩) (fun r_1 hr_1 => ?_)
  obtain ⟨hr_1, hbr_1⟩ := hr_1
  have hE := hE.trans (spLet_eq hr_1)
  refine lv_if_eq (tgt := 20) hx hb dX0_hoistUp_4 (by decide) (fun c_2 => ?_) (fun c_2 => ?_)
  ·
    have hE := hE.trans (if_pos c_2)
    refine lv_aload_n hx hb dX0_hoistUp_20 rfl (lv_at hl 0 rfl) ?_
    refine lv_dup hx hb dX0_hoistUp_21 rfl ?_
    refine va_get (D := (dC, dI)) (ci := 0) (v := .int bhe) (C := RX0) (T := TX0) (N := 7) hx hb hts i_X0 hown hK hP 0 rfl rfl 3 (by decide) w_0 (fun _ h9 => h9) rfl dX0_hoistUp_22 ?_
    refine lv_iload_n hx hb dX0_hoistUp_25 rfl (lv_at hl 1 rfl) ?_
    refine lv_iadd hx hb dX0_hoistUp_26 ?_
    refine lv_topi (fun x_3 ex_3 => ?_)
    have hE := hE.trans (spLet_eq ex_3)
    refine va_put (D := (dC, dI)) (ci := 0) (v := .int x_3) (ty := .int) (C := RX0) (T := TX0) (N := 7) hx hb hts i_X0 tyX0 tyX0_ok nmX0 hown hK hP hD hS 0 rfl rfl 3 (by decide) w_0 (fun _ h9 => h9) rfl (by decide +kernel) (rfl) (rfl) (Nat.le_of_ble_eq_true rfl) dX0_hoistUp_27 (fun H locs hP hD hS => ?_)
    have hP : va_P (dC, dI) vwCl [(qb, .inr (0, [.int bln, .int ban, .int bsl, .int x_3, .int bte, .int bma, .int bta]))] H := hP
    have hD : va_D A [(qb, .inr (0, [.int bln, .int ban, .int bsl, .int x_3, .int bte, .int bma, .int bta]))] := hD
    exact W.vret hx hb hr (fun t h9 hW => ⟨⟨((x_3, bte) : Int32 × Int32), rfl, hE.symm, by rw [h9]; exact hP, hD⟩, hS.F h9⟩) hS.2.2 dX0_hoistUp_30
  ·
    have hE := hE.trans (if_neg c_2)
    refine lv_aload_n hx hb dX0_hoistUp_7 rfl (lv_at hl 0 rfl) ?_
    refine lv_dup hx hb dX0_hoistUp_8 rfl ?_
    refine va_get (D := (dC, dI)) (ci := 0) (v := .int bte) (C := RX0) (T := TX0) (N := 7) hx hb hts i_X0 hown hK hP 0 rfl rfl 4 (by decide) w_1 (fun _ h9 => h9) rfl dX0_hoistUp_9 ?_
    refine lv_iconst (v := 1) hx hb dX0_hoistUp_12 (by decide) ?_
    refine lv_iadd hx hb dX0_hoistUp_13 ?_
    refine lv_topi (fun x_4 ex_4 => ?_)
    have hE := hE.trans (spLet_eq ex_4)
    refine va_put (D := (dC, dI)) (ci := 0) (v := .int x_4) (ty := .int) (C := RX0) (T := TX0) (N := 7) hx hb hts i_X0 tyX0 tyX0_ok nmX0 hown hK hP hD hS 0 rfl rfl 4 (by decide) w_1 (fun _ h9 => h9) rfl (by decide +kernel) (rfl) (rfl) (Nat.le_of_ble_eq_true rfl) dX0_hoistUp_14 (fun H locs hP hD hS => ?_)
    have hP : va_P (dC, dI) vwCl [(qb, .inr (0, [.int bln, .int ban, .int bsl, .int bhe, .int x_4, .int bma, .int bta]))] H := hP
    have hD : va_D A [(qb, .inr (0, [.int bln, .int ban, .int bsl, .int bhe, .int x_4, .int bma, .int bta]))] := hD
    refine lv_goto (tgt := 30) hx hb dX0_hoistUp_17 (by decide) ?_
    exact W.vret hx hb hr (fun t h9 hW => ⟨⟨((bhe, x_4) : Int32 × Int32), rfl, hE.symm, by rw [h9]; exact hP, hD⟩, hS.F h9⟩) hS.2.2 dX0_hoistUp_30
def x_X0_hoistDown (bhe : Int32) (bte : Int32) (ste : Int32) : Int32 × Int32 :=
  if bhe ≤ 0 then (spLet ((if (bte - (1 : Int32)) < (0 : Int32) then (0 : Int32) else (bte - (1 : Int32)))) (fun x_2 => (bhe, x_2))) else (spLet ((if (bhe - ste) < (0 : Int32) then (0 : Int32) else (bhe - ste))) (fun x_3 => (x_3, bte)))
set_option maxHeartbeats 1000000 in
set_option maxRecDepth 100000 in
theorem c_X0_hoistDown (l : Launch) (dC : Nat → ClassId) (dI : Nat → Nat → Nat) (cyI : ClassId) (sz : Nat) (qb : Nat) (bln : Int32) (ban : Int32) (bsl : Int32) (bhe : Int32) (bte : Int32) (bma : Int32) (bta : Int32) (ste : Int32) : Met l yX0_hoistDown wqX0_hoistDown ({ frames := 1, cells := 0, slots := 0, locals := 14 } : Room) (va_Pc [.ref qb, .int ste] (pC (dC, dI) [(qb, .inr (0, [.int bln, .int ban, .int bsl, .int bhe, .int bte, .int bma, .int bta]))] [(cyI, .int)] eX sz)) (va_Qv (fun u : Int32 × Int32 => u = (x_X0_hoistDown bhe bte ste)) (fun (u : Int32 × Int32) t => va_P (dC, dI) vwCl [(qb, .inr (0, [.int bln, .int ban, .int bsl, .int (u.1), .int (u.2), .int bma, .int bta]))] t.heap ∧ va_D (va_A [(qb, .inr (0, [.int bln, .int ban, .int bsl, .int bhe, .int bte, .int bma, .int bta]))] sz) [(qb, .inr (0, [.int bln, .int ban, .int bsl, .int (u.1), .int (u.2), .int bma, .int bta]))]) (va_A [(qb, .inr (0, [.int bln, .int ban, .int bsl, .int bhe, .int bte, .int bma, .int bta]))] sz)) 0 0 (va_A [(qb, .inr (0, [.int bln, .int ban, .int bsl, .int bhe, .int bte, .int bma, .int bta]))] sz) := by
  refine Met.ofW (cc := cX0_hoistDown) (maxL := 2) (ret := none) (by decide) rfl ?_
  intro p e s m args below meth c s₁ B hml hv
  obtain ⟨rfl, hsz, hP, hK, hD0, he⟩ := hv
  have hx := B.exec
  have hb := B.bytes
  have hr := B.returns
  have hts := atoms_spec (ws := wqX0_hoistDown) B.pre
  have hown : s.vm.findClass RX0 = some m.cls := findClass_of_methodNamed B.named
  have hlocks := B.notSynchronized
  have w_0 := hts (Cond.fieldLink RX0 24 "CraneLimiter$Boom" "height" "I") (List.mem_cons_of_mem _ b_143)
  have w_1 := hts (Cond.fieldLink RX0 27 "CraneLimiter$Boom" "tension" "I") (List.mem_cons_of_mem _ b_144)
  have w_2 := hts (Cond.methodLink RX0 37 Lib.Math.max.name) (List.mem_cons_of_mem _ b_358)
  have w_3 := hts (Cond.static Lib.Math.max.name) (List.mem_cons_of_mem _ b_352)
  have w_4 := hts (Cond.initialized "java/lang/Math") (List.mem_cons_of_mem _ b_128)
  have w_5 := hts (Cond.code Lib.Math.max.name Lib.Math.max.code 2 (some .int)) (List.mem_cons_of_mem _ b_353)
  have i_X0 : ∀ w ∈ u_ws RX0 TX0 7, w ∈ wqX0_hoistDown := fun w h => List.mem_cons_of_mem _ (bX0 w h)
  subst hsz
  have hD := hD0.self (sz := s.heap.size)
  generalize hAe : va_A [(qb, .inr (0, [.int bln, .int ban, .int bsl, .int bhe, .int bte, .int bma, .int bta]))] s.heap.size = A at hD he ⊢
  have hA : ∀ q : Nat, s.heap.size ≤ q → A q := fun q h => by rw [← hAe]; exact Or.inr h
  have hS : va_S A s.heap s.heap [] := va_S.rf
  have hP : va_P (dC, dI) vwCl [(qb, .inr (0, [.int bln, .int ban, .int bsl, .int bhe, .int bte, .int bma, .int bta]))] s.heap := hP
  have hl := lv_entry ([.ref qb, .int ste] : List Value) (n := 2) (Nat.le_of_ble_eq_true rfl)
  rw [lg_entry_eq]
  generalize (lg_sl ([.ref qb, .int ste] : List Value) ++ List.replicate (2 - (lg_sl ([.ref qb, .int ste] : List Value)).length) Slot.unset).toArray = ls at hl ⊢
  have hl : lv_has ls 2 [(0, .ref qb), (1, .int ste)] := hl
  have hE : x_X0_hoistDown bhe bte ste = x_X0_hoistDown bhe bte ste := rfl
  refine lv_aload_n hx hb dX0_hoistDown_0 rfl (lv_at hl 0 rfl) ?_
  refine va_get (D := (dC, dI)) (ci := 0) (v := .int bhe) (C := RX0) (T := TX0) (N := 7) hx hb hts i_X0 hown hK hP 0 rfl rfl 3 (by decide) w_0 (fun _ h9 => h9) rfl dX0_hoistDown_1 ?_
  refine lv_if_le (tgt := 24) hx hb dX0_hoistDown_4 (by decide) (fun c_1 => ?_) (fun c_1 => ?_)
  ·
    have hE := hE.trans (if_pos c_1)
    refine lv_aload_n hx hb dX0_hoistDown_24 rfl (lv_at hl 0 rfl) ?_
    refine lv_aload_n hx hb dX0_hoistDown_25 rfl (lv_at hl 0 rfl) ?_
    refine va_get (D := (dC, dI)) (ci := 0) (v := .int bte) (C := RX0) (T := TX0) (N := 7) hx hb hts i_X0 hown hK hP 0 rfl rfl 4 (by decide) w_1 (fun _ h9 => h9) rfl dX0_hoistDown_26 ?_
    refine lv_iconst (v := 1) hx hb dX0_hoistDown_29 (by decide) ?_
    refine lv_isub hx hb dX0_hoistDown_30 ?_
    refine lv_iconst (v := 0) hx hb dX0_hoistDown_31 (by decide) ?_
    refine va_mmax hx hb (hml.trans hl.1.symm) hown w_2 w_3 w_4 w_5 (Nat.le_of_ble_eq_true rfl) (Nat.le_of_ble_eq_true rfl) (Nat.le_of_ble_eq_true rfl) (Nat.le_of_ble_eq_true rfl) dX0_hoistDown_32 ?_
    refine lv_topi (fun x_2 ex_2 => ?_)
    have hE := hE.trans (spLet_eq ex_2)
    refine va_put (D := (dC, dI)) (ci := 0) (v := .int x_2) (ty := .int) (C := RX0) (T := TX0) (N := 7) hx hb hts i_X0 tyX0 tyX0_ok nmX0 hown hK hP hD hS 0 rfl rfl 4 (by decide) w_1 (fun _ h9 => h9) rfl (by decide +kernel) (rfl) (rfl) (Nat.le_of_ble_eq_true rfl) dX0_hoistDown_35 (fun H locs hP hD hS => ?_)
    have hP : va_P (dC, dI) vwCl [(qb, .inr (0, [.int bln, .int ban, .int bsl, .int bhe, .int x_2, .int bma, .int bta]))] H := hP
    have hD : va_D A [(qb, .inr (0, [.int bln, .int ban, .int bsl, .int bhe, .int x_2, .int bma, .int bta]))] := hD
    exact W.vret hx hb hr (fun t h9 hW => ⟨⟨((bhe, x_2) : Int32 × Int32), rfl, hE.symm, by rw [h9]; exact hP, hD⟩, hS.F h9⟩) hS.2.2 dX0_hoistDown_38
  ·
    have hE := hE.trans (if_neg c_1)
    refine lv_aload_n hx hb dX0_hoistDown_7 rfl (lv_at hl 0 rfl) ?_
    refine lv_aload_n hx hb dX0_hoistDown_8 rfl (lv_at hl 0 rfl) ?_
    refine va_get (D := (dC, dI)) (ci := 0) (v := .int bhe) (C := RX0) (T := TX0) (N := 7) hx hb hts i_X0 hown hK hP 0 rfl rfl 3 (by decide) w_0 (fun _ h9 => h9) rfl dX0_hoistDown_9 ?_
    refine lv_iload_n hx hb dX0_hoistDown_12 rfl (lv_at hl 1 rfl) ?_
    refine lv_isub hx hb dX0_hoistDown_13 ?_
    refine lv_iconst (v := 0) hx hb dX0_hoistDown_14 (by decide) ?_
    refine va_mmax hx hb (hml.trans hl.1.symm) hown w_2 w_3 w_4 w_5 (Nat.le_of_ble_eq_true rfl) (Nat.le_of_ble_eq_true rfl) (Nat.le_of_ble_eq_true rfl) (Nat.le_of_ble_eq_true rfl) dX0_hoistDown_15 ?_
    refine lv_topi (fun x_3 ex_3 => ?_)
    have hE := hE.trans (spLet_eq ex_3)
    refine va_put (D := (dC, dI)) (ci := 0) (v := .int x_3) (ty := .int) (C := RX0) (T := TX0) (N := 7) hx hb hts i_X0 tyX0 tyX0_ok nmX0 hown hK hP hD hS 0 rfl rfl 3 (by decide) w_0 (fun _ h9 => h9) rfl (by decide +kernel) (rfl) (rfl) (Nat.le_of_ble_eq_true rfl) dX0_hoistDown_18 (fun H locs hP hD hS => ?_)
    have hP : va_P (dC, dI) vwCl [(qb, .inr (0, [.int bln, .int ban, .int bsl, .int x_3, .int bte, .int bma, .int bta]))] H := hP
    have hD : va_D A [(qb, .inr (0, [.int bln, .int ban, .int bsl, .int x_3, .int bte, .int bma, .int bta]))] := hD
    refine lv_goto (tgt := 38) hx hb dX0_hoistDown_21 (by decide) ?_
    exact W.vret hx hb hr (fun t h9 hW => ⟨⟨((x_3, bte) : Int32 × Int32), rfl, hE.symm, by rw [h9]; exact hP, hD⟩, hS.F h9⟩) hS.2.2 dX0_hoistDown_38
def x_X0_move_j250 (w0_0_250 : Int32) (w0_1_250 : Int32) (w0_2_250 : Int32) (w0_3_250 : Int32) (w0_4_250 : Int32) : Int32 × Int32 × Int32 × Int32 × Int32 :=
  spLet (x_X0_tip w0_0_250 w0_1_250) (fun r_1 => spLet ((if (r_1 - (200 : Int32)) < w0_3_250 then (r_1 - (200 : Int32)) else w0_3_250)) (fun x_2 => (w0_0_250, w0_1_250, w0_2_250, x_2, w0_4_250)))
def x_X0_move_j60 (bln : Int32) (ban : Int32) (bsl : Int32) (bhe : Int32) (bte : Int32) (bma : Int32) (t0_60 : Int32) : Int32 × Int32 × Int32 × Int32 × Int32 :=
  spLet (x_X0_hoistUp bhe bte bma t0_60) (fun u_5 => x_X0_move_j250 bln ban bsl (u_5.1) (u_5.2))
def x_X0_move_j78 (bln : Int32) (ban : Int32) (bsl : Int32) (bhe : Int32) (bte : Int32) (t0_78 : Int32) : Int32 × Int32 × Int32 × Int32 × Int32 :=
  spLet (x_X0_hoistDown bhe bte t0_78) (fun u_8 => x_X0_move_j250 bln ban bsl (u_8.1) (u_8.2))
def x_X0_move_j98 (bln : Int32) (ban : Int32) (bsl : Int32) (bhe : Int32) (bte : Int32) (t0_98 : Int32) : Int32 × Int32 × Int32 × Int32 × Int32 :=
  spLet ((if (850 : Int32) < (ban + t0_98) then (850 : Int32) else (ban + t0_98))) (fun x_11 => x_X0_move_j250 bln x_11 bsl bhe bte)
def x_X0_move_j125 (bln : Int32) (ban : Int32) (bsl : Int32) (bhe : Int32) (bte : Int32) (t0_125 : Int32) : Int32 × Int32 × Int32 × Int32 × Int32 :=
  spLet ((if (ban - t0_125) < (0 : Int32) then (0 : Int32) else (ban - t0_125))) (fun x_14 => x_X0_move_j250 bln x_14 bsl bhe bte)
def x_X0_move_j151 (bln : Int32) (ban : Int32) (bsl : Int32) (bhe : Int32) (bte : Int32) (t0_151 : Int32) : Int32 × Int32 × Int32 × Int32 × Int32 :=
  spLet ((if (6000 : Int32) < (bln + t0_151) then (6000 : Int32) else (bln + t0_151))) (fun x_17 => x_X0_move_j250 x_17 ban bsl bhe bte)
def x_X0_move_j179 (bln : Int32) (ban : Int32) (bsl : Int32) (bhe : Int32) (bte : Int32) (t0_179 : Int32) : Int32 × Int32 × Int32 × Int32 × Int32 :=
  spLet ((if (bln - t0_179) < (1000 : Int32) then (1000 : Int32) else (bln - t0_179))) (fun x_20 => x_X0_move_j250 x_20 ban bsl bhe bte)
def x_X0_move_j208 (bln : Int32) (ban : Int32) (bsl : Int32) (bhe : Int32) (bte : Int32) (t0_208 : Int32) : Int32 × Int32 × Int32 × Int32 × Int32 :=
  spLet (((bsl + t0_208) - (bsl + t0_208) / (3600 : Int32) * (3600 : Int32))) (fun x_23 => x_X0_move_j250 bln ban x_23 bhe bte)
def x_X0_move_j239 (bln : Int32) (ban : Int32) (bsl : Int32) (bhe : Int32) (bte : Int32) (t0_239 : Int32) : Int32 × Int32 × Int32 × Int32 × Int32 :=
  spLet ((((bsl + (3600 : Int32)) - t0_239) - ((bsl + (3600 : Int32)) - t0_239) / (3600 : Int32) * (3600 : Int32))) (fun x_26 => x_X0_move_j250 bln ban x_26 bhe bte)
def x_X0_move (bln : Int32) (ban : Int32) (bsl : Int32) (bhe : Int32) (bte : Int32) (bma : Int32) (mo : Int32) (slo : Int32) : Int32 × Int32 × Int32 × Int32 × Int32 :=
  if mo = 0 then (if slo = 0 then (x_X0_move_j60 bln ban bsl bhe bte bma (20 : Int32)) else (x_X0_move_j60 bln ban bsl bhe bte bma (10 : Int32))) else (if mo = 1 then (if slo = 0 then (x_X0_move_j78 bln ban bsl bhe bte (20 : Int32)) else (x_X0_move_j78 bln ban bsl bhe bte (10 : Int32))) else (if mo = 2 then (if slo = 0 then (x_X0_move_j98 bln ban bsl bhe bte (5 : Int32)) else (x_X0_move_j98 bln ban bsl bhe bte (2 : Int32))) else (if mo = 3 then (if slo = 0 then (x_X0_move_j125 bln ban bsl bhe bte (5 : Int32)) else (x_X0_move_j125 bln ban bsl bhe bte (2 : Int32))) else (if mo = 4 then (if slo = 0 then (x_X0_move_j151 bln ban bsl bhe bte (10 : Int32)) else (x_X0_move_j151 bln ban bsl bhe bte (5 : Int32))) else (if mo = 5 then (if slo = 0 then (x_X0_move_j179 bln ban bsl bhe bte (10 : Int32)) else (x_X0_move_j179 bln ban bsl bhe bte (5 : Int32))) else (if mo = 6 then (if slo = 0 then (x_X0_move_j208 bln ban bsl bhe bte (15 : Int32)) else (x_X0_move_j208 bln ban bsl bhe bte (7 : Int32))) else (if mo = 7 then (if slo = 0 then (x_X0_move_j239 bln ban bsl bhe bte (15 : Int32)) else (x_X0_move_j239 bln ban bsl bhe bte (7 : Int32))) else (x_X0_move_j250 bln ban bsl bhe bte))))))))
set_option maxHeartbeats 1000000 in
set_option maxRecDepth 100000 in
theorem c_X0_move (l : Launch) (dC : Nat → ClassId) (dI : Nat → Nat → Nat) (cyI : ClassId) (sz : Nat) (qb : Nat) (bln : Int32) (ban : Int32) (bsl : Int32) (bhe : Int32) (bte : Int32) (bma : Int32) (bta : Int32) (mo : Int32) (slo : Int32) : Met l yX0_move wqX0_move ({ frames := 2, cells := 0, slots := 0, locals := 42 } : Room) (va_Pc [.ref qb, .int mo, .int slo] (pC (dC, dI) [(qb, .inr (0, [.int bln, .int ban, .int bsl, .int bhe, .int bte, .int bma, .int bta]))] [(cyI, .int)] eX sz)) (va_Qv (fun u : Int32 × Int32 × Int32 × Int32 × Int32 => u = (x_X0_move bln ban bsl bhe bte bma mo slo)) (fun (u : Int32 × Int32 × Int32 × Int32 × Int32) t => va_P (dC, dI) vwCl [(qb, .inr (0, [.int (u.1), .int (u.2.1), .int (u.2.2.1), .int (u.2.2.2.1), .int (u.2.2.2.2), .int bma, .int bta]))] t.heap ∧ va_D (va_A [(qb, .inr (0, [.int bln, .int ban, .int bsl, .int bhe, .int bte, .int bma, .int bta]))] sz) [(qb, .inr (0, [.int (u.1), .int (u.2.1), .int (u.2.2.1), .int (u.2.2.2.1), .int (u.2.2.2.2), .int bma, .int bta]))]) (va_A [(qb, .inr (0, [.int bln, .int ban, .int bsl, .int bhe, .int bte, .int bma, .int bta]))] sz)) 0 0 (va_A [(qb, .inr (0, [.int bln, .int ban, .int bsl, .int bhe, .int bte, .int bma, .int bta]))] sz) := by
  refine Met.ofW (cc := cX0_move) (maxL := 3) (ret := none) (by decide) rfl ?_
  intro p e s m args below meth c s₁ B hml hv
  obtain ⟨rfl, hsz, hP, hK, hD0, he⟩ := hv
  have hx := B.exec
  have hb := B.bytes
  have hr := B.returns
  have hts := atoms_spec (ws := wqX0_move) B.pre
  have hown : s.vm.findClass RX0 = some m.cls := findClass_of_methodNamed B.named
  have hlocks := B.notSynchronized
  have w_0 := hts (Cond.fieldLink RX0 24 "CraneLimiter$Boom" "height" "I") (List.mem_cons_of_mem _ b_143)
  have w_1 := hts (Cond.methodLink RX0 52 Lib.Math.min.name) (List.mem_cons_of_mem _ b_511)
  have w_2 := hts (Cond.static Lib.Math.min.name) (List.mem_cons_of_mem _ b_127)
  have w_3 := hts (Cond.initialized "java/lang/Math") (List.mem_cons_of_mem _ b_128)
  have w_4 := hts (Cond.code Lib.Math.min.name Lib.Math.min.code 2 (some .int)) (List.mem_cons_of_mem _ b_129)
  have w_5 := hts (Cond.fieldLink RX0 15 "CraneLimiter$Boom" "angle" "I") (List.mem_cons_of_mem _ b_57)
  have w_6 := hts (Cond.methodLink RX0 37 Lib.Math.max.name) (List.mem_cons_of_mem _ b_358)
  have w_7 := hts (Cond.static Lib.Math.max.name) (List.mem_cons_of_mem _ b_352)
  have w_8 := hts (Cond.code Lib.Math.max.name Lib.Math.max.code 2 (some .int)) (List.mem_cons_of_mem _ b_353)
  have w_9 := hts (Cond.fieldLink RX0 9 "CraneLimiter$Boom" "length" "I") (List.mem_cons_of_mem _ b_56)
  have w_10 := hts (Cond.fieldLink RX0 21 "CraneLimiter$Boom" "slew" "I") (List.mem_cons_of_mem _ b_142)
  have i_X0 : ∀ w ∈ u_ws RX0 TX0 7, w ∈ wqX0_move := fun w h => List.mem_cons_of_mem _ (bX0 w h)
  subst hsz
  have hD := hD0.self (sz := s.heap.size)
  generalize hAe : va_A [(qb, .inr (0, [.int bln, .int ban, .int bsl, .int bhe, .int bte, .int bma, .int bta]))] s.heap.size = A at hD he ⊢
  have hA : ∀ q : Nat, s.heap.size ≤ q → A q := fun q h => by rw [← hAe]; exact Or.inr h
  have hS : va_S A s.heap s.heap [] := va_S.rf
  have hP : va_P (dC, dI) vwCl [(qb, .inr (0, [.int bln, .int ban, .int bsl, .int bhe, .int bte, .int bma, .int bta]))] s.heap := hP
  have hl := lv_entry ([.ref qb, .int mo, .int slo] : List Value) (n := 3) (Nat.le_of_ble_eq_true rfl)
  rw [lg_entry_eq]
  generalize (lg_sl ([.ref qb, .int mo, .int slo] : List Value) ++ List.replicate (3 - (lg_sl ([.ref qb, .int mo, .int slo] : List Value)).length) Slot.unset).toArray = ls at hl ⊢
  have hl : lv_has ls 3 [(0, .ref qb), (1, .int mo), (2, .int slo)] := hl
  have hE : x_X0_move bln ban bsl bhe bte bma mo slo = x_X0_move bln ban bsl bhe bte bma mo slo := rfl
  refine lv_iload_n hx hb dX0_move_0 rfl (lv_at hl 1 rfl) ?_
  have J250 : ∀ (w0_0_250 : Int32) (w0_1_250 : Int32) (w0_2_250 : Int32) (w0_3_250 : Int32) (w0_4_250 : Int32) (H : Heap) (locs : List Loc) (hP : va_P (dC, dI) vwCl [(qb, .inr (0, [.int w0_0_250, .int w0_1_250, .int w0_2_250, .int w0_3_250, .int w0_4_250, .int bma, .int bta]))] H) (hD : va_D A [(qb, .inr (0, [.int w0_0_250, .int w0_1_250, .int w0_2_250, .int w0_3_250, .int w0_4_250, .int bma, .int bta]))]) (hS : va_S A s.heap H locs) (ls : Array Slot) (hl : lv_has ls 3 [(0, .ref qb)]) (hE : (x_X0_move bln ban bsl bhe bte bma mo slo) = x_X0_move_j250 w0_0_250 w0_1_250 w0_2_250 w0_3_250 w0_4_250), W p l e (headSpec wqX0_move ({ frames := 2, cells := 0, slots := 0, locals := 42 } : Room)).room s m ([.ref qb, .int mo, .int slo] : List Value).toArray below meth c H locs 0 0 (MQ below (va_Qv (fun u : Int32 × Int32 × Int32 × Int32 × Int32 => u = (x_X0_move bln ban bsl bhe bte bma mo slo)) (fun (u : Int32 × Int32 × Int32 × Int32 × Int32) t => va_P (dC, dI) vwCl [(qb, .inr (0, [.int (u.1), .int (u.2.1), .int (u.2.2.1), .int (u.2.2.2.1), .int (u.2.2.2.2), .int bma, .int bta]))] t.heap ∧ va_D A [(qb, .inr (0, [.int (u.1), .int (u.2.1), .int (u.2.2.1), .int (u.2.2.2.1), .int (u.2.2.2.2), .int bma, .int bta]))]) A) ([.ref qb, .int mo, .int slo] : List Value).toArray s 0 0 A) (F0 m 250 ls []) := by
    intro w0_0_250 w0_1_250 w0_2_250 w0_3_250 w0_4_250 H locs hP hD hS ls hl hE
    refine lv_aload_n hx hb dX0_move_250 rfl (lv_at hl 0 rfl) ?_
    refine lv_aload_n hx hb dX0_move_251 rfl (lv_at hl 0 rfl) ?_
    refine va_get (D := (dC, dI)) (ci := 0) (v := .int w0_3_250) (C := RX0) (T := TX0) (N := 7) hx hb hts i_X0 hown hK hP 0 rfl rfl 3 (by decide) w_0 (fun _ h9 => h9) rfl dX0_move_252 ?_
    refine lv_aload_n hx hb dX0_move_255 rfl (lv_at hl 0 rfl) ?_
    refine vp_callSi (W.runV (As := []) (rest := [.int w0_3_250, .ref qb]) ⟨hx, hb, hml, hown, hts⟩ (c_X0_tip l dC dI cyI qb w0_0_250 w0_1_250 w0_2_250 w0_3_250 w0_4_250 bma bta) (cwV 0 hts (gBV b_494 b_364 b_365 b_30 b_366) rfl rfl rfl (by decide +kernel) ⟨Nat.le_of_ble_eq_true rfl, Nat.le_of_ble_eq_true rfl⟩) (pre_v eX_ok he hS hP hK 0 rfl rfl rfl) rfl rfl hl.1 rfl (lv_room (Nat.le_of_ble_eq_true rfl)) dX0_move_256 ⟨Nat.zero_le _, Nat.zero_le _⟩) (fun r_1 hr_1 => ?_)
    have hE := hE.trans (spLet_eq hr_1)
    refine lv_sipush (v := 200) hx hb dX0_move_259 (by decide) ?_
    refine lv_isub hx hb dX0_move_262 ?_
    refine va_mmin hx hb (hml.trans hl.1.symm) hown w_1 w_2 w_3 w_4 (Nat.le_of_ble_eq_true rfl) (Nat.le_of_ble_eq_true rfl) (Nat.le_of_ble_eq_true rfl) (Nat.le_of_ble_eq_true rfl) dX0_move_263 ?_
    refine lv_topi (fun x_2 ex_2 => ?_)
    have hE := hE.trans (spLet_eq ex_2)
    refine va_put (D := (dC, dI)) (ci := 0) (v := .int x_2) (ty := .int) (C := RX0) (T := TX0) (N := 7) hx hb hts i_X0 tyX0 tyX0_ok nmX0 hown hK hP hD hS 0 rfl rfl 3 (by decide) w_0 (fun _ h9 => h9) rfl (by decide +kernel) (rfl) (rfl) (Nat.le_of_ble_eq_true rfl) dX0_move_266 (fun H locs hP hD hS => ?_)
    have hP : va_P (dC, dI) vwCl [(qb, .inr (0, [.int w0_0_250, .int w0_1_250, .int w0_2_250, .int x_2, .int w0_4_250, .int bma, .int bta]))] H := hP
    have hD : va_D A [(qb, .inr (0, [.int w0_0_250, .int w0_1_250, .int w0_2_250, .int x_2, .int w0_4_250, .int bma, .int bta]))] := hD
    exact W.vret hx hb hr (fun t h9 hW => ⟨⟨((w0_0_250, w0_1_250, w0_2_250, x_2, w0_4_250) : Int32 × Int32 × Int32 × Int32 × Int32), rfl, hE.symm, by rw [h9]; exact hP, hD⟩, hS.F h9⟩) hS.2.2 dX0_move_269
  by_cases c_3 : mo = 0
  ·
    have hE := hE.trans (if_pos c_3)
    refine lv_tableIn (tgt := 48) (off := 47) hx hb dX0_move_1 (by rw [c_3]; decide) (by rw [c_3]; decide) (by rw [c_3]; rfl) (by decide) ?_
    refine lv_aload_n hx hb dX0_move_48 rfl (lv_at hl 0 rfl) ?_
    refine lv_iload_n hx hb dX0_move_49 rfl (lv_at hl 2 rfl) ?_
    have J60 : ∀ (t0_60 : Int32) (ls : Array Slot) (hl : lv_has ls 3 [(0, .ref qb)]) (hE : (x_X0_move bln ban bsl bhe bte bma mo slo) = x_X0_move_j60 bln ban bsl bhe bte bma t0_60), W p l e (headSpec wqX0_move ({ frames := 2, cells := 0, slots := 0, locals := 42 } : Room)).room s m ([.ref qb, .int mo, .int slo] : List Value).toArray below meth c s.heap [] 0 0 (MQ below (va_Qv (fun u : Int32 × Int32 × Int32 × Int32 × Int32 => u = (x_X0_move bln ban bsl bhe bte bma mo slo)) (fun (u : Int32 × Int32 × Int32 × Int32 × Int32) t => va_P (dC, dI) vwCl [(qb, .inr (0, [.int (u.1), .int (u.2.1), .int (u.2.2.1), .int (u.2.2.2.1), .int (u.2.2.2.2), .int bma, .int bta]))] t.heap ∧ va_D A [(qb, .inr (0, [.int (u.1), .int (u.2.1), .int (u.2.2.1), .int (u.2.2.2.1), .int (u.2.2.2.2), .int bma, .int bta]))]) A) ([.ref qb, .int mo, .int slo] : List Value).toArray s 0 0 A) (F0 m 60 ls [.int t0_60, .ref qb]) := by
      intro t0_60 ls hl hE
      refine mj_v (wr := []) (va_runV (As := [.int t0_60]) (rest := []) ⟨hx, hb, hml, hown, hts⟩ (c_X0_hoistUp l dC dI cyI s.heap.size qb bln ban bsl bhe bte bma bta t0_60) (cwV 1 hts (gBV b_512 b_513 b_514 b_30 b_515) rfl rfl rfl (by decide +kernel) ⟨Nat.le_of_ble_eq_true rfl, Nat.le_of_ble_eq_true rfl⟩) (prm_v eX_ok he hS hP hD hK (va_free (wc := [(qb, .inr (0, [.int bln, .int ban, .int bsl, .int bhe, .int bte, .int bma, .int bta]))]) hD hS hA [0] rfl) 0 rfl rfl rfl) rfl rfl hl.1 rfl (lv_room (Nat.le_of_ble_eq_true rfl)) dX0_move_60 ⟨Nat.le_of_ble_eq_true rfl, Nat.le_of_ble_eq_true rfl⟩) hP hD hS hA [0] [] rfl rfl (by decide) (by decide) (fun u_5 H locs hw hP hD hS => ?_)
      have hu_5 := hw
      have hE := hE.trans (spLet_eq hu_5)
      have hP : va_P (dC, dI) vwCl [(qb, .inr (0, [.int bln, .int ban, .int bsl, .int (u_5.1), .int (u_5.2), .int bma, .int bta]))] H := hP
      have hD : va_D A [(qb, .inr (0, [.int bln, .int ban, .int bsl, .int (u_5.1), .int (u_5.2), .int bma, .int bta]))] := hD
      refine lv_goto (tgt := 250) hx hb dX0_move_63 (by decide) ?_
      exact J250 bln ban bsl (u_5.1) (u_5.2) _ _ hP hD hS ls (lv_sub hl [0] rfl) hE
    refine lv_if_eq (tgt := 58) hx hb dX0_move_50 (by decide) (fun c_4 => ?_) (fun c_4 => ?_)
    ·
      have hE := hE.trans (if_pos c_4)
      refine lv_bipush (v := 20) hx hb dX0_move_58 (by decide) ?_
      exact J60 (20 : Int32) ls (lv_sub hl [0] rfl) hE
    ·
      have hE := hE.trans (if_neg c_4)
      refine lv_bipush (v := 10) hx hb dX0_move_53 (by decide) ?_
      refine lv_goto (tgt := 60) hx hb dX0_move_55 (by decide) ?_
      exact J60 (10 : Int32) ls (lv_sub hl [0] rfl) hE
  ·
    have hE := hE.trans (if_neg c_3)
    by_cases c_6 : mo = 1
    ·
      have hE := hE.trans (if_pos c_6)
      refine lv_tableIn (tgt := 66) (off := 65) hx hb dX0_move_1 (by rw [c_6]; decide) (by rw [c_6]; decide) (by rw [c_6]; rfl) (by decide) ?_
      refine lv_aload_n hx hb dX0_move_66 rfl (lv_at hl 0 rfl) ?_
      refine lv_iload_n hx hb dX0_move_67 rfl (lv_at hl 2 rfl) ?_
      have J78 : ∀ (t0_78 : Int32) (ls : Array Slot) (hl : lv_has ls 3 [(0, .ref qb)]) (hE : (x_X0_move bln ban bsl bhe bte bma mo slo) = x_X0_move_j78 bln ban bsl bhe bte t0_78), W p l e (headSpec wqX0_move ({ frames := 2, cells := 0, slots := 0, locals := 42 } : Room)).room s m ([.ref qb, .int mo, .int slo] : List Value).toArray below meth c s.heap [] 0 0 (MQ below (va_Qv (fun u : Int32 × Int32 × Int32 × Int32 × Int32 => u = (x_X0_move bln ban bsl bhe bte bma mo slo)) (fun (u : Int32 × Int32 × Int32 × Int32 × Int32) t => va_P (dC, dI) vwCl [(qb, .inr (0, [.int (u.1), .int (u.2.1), .int (u.2.2.1), .int (u.2.2.2.1), .int (u.2.2.2.2), .int bma, .int bta]))] t.heap ∧ va_D A [(qb, .inr (0, [.int (u.1), .int (u.2.1), .int (u.2.2.1), .int (u.2.2.2.1), .int (u.2.2.2.2), .int bma, .int bta]))]) A) ([.ref qb, .int mo, .int slo] : List Value).toArray s 0 0 A) (F0 m 78 ls [.int t0_78, .ref qb]) := by
        intro t0_78 ls hl hE
        refine mj_v (wr := []) (va_runV (As := [.int t0_78]) (rest := []) ⟨hx, hb, hml, hown, hts⟩ (c_X0_hoistDown l dC dI cyI s.heap.size qb bln ban bsl bhe bte bma bta t0_78) (cwV 1 hts (gBV b_516 b_517 b_518 b_30 b_519) rfl rfl rfl (by decide +kernel) ⟨Nat.le_of_ble_eq_true rfl, Nat.le_of_ble_eq_true rfl⟩) (prm_v eX_ok he hS hP hD hK (va_free (wc := [(qb, .inr (0, [.int bln, .int ban, .int bsl, .int bhe, .int bte, .int bma, .int bta]))]) hD hS hA [0] rfl) 0 rfl rfl rfl) rfl rfl hl.1 rfl (lv_room (Nat.le_of_ble_eq_true rfl)) dX0_move_78 ⟨Nat.le_of_ble_eq_true rfl, Nat.le_of_ble_eq_true rfl⟩) hP hD hS hA [0] [] rfl rfl (by decide) (by decide) (fun u_8 H locs hw hP hD hS => ?_)
        have hu_8 := hw
        have hE := hE.trans (spLet_eq hu_8)
        have hP : va_P (dC, dI) vwCl [(qb, .inr (0, [.int bln, .int ban, .int bsl, .int (u_8.1), .int (u_8.2), .int bma, .int bta]))] H := hP
        have hD : va_D A [(qb, .inr (0, [.int bln, .int ban, .int bsl, .int (u_8.1), .int (u_8.2), .int bma, .int bta]))] := hD
        refine lv_goto (tgt := 250) hx hb dX0_move_81 (by decide) ?_
        exact J250 bln ban bsl (u_8.1) (u_8.2) _ _ hP hD hS ls (lv_sub hl [0] rfl) hE
      refine lv_if_eq (tgt := 76) hx hb dX0_move_68 (by decide) (fun c_7 => ?_) (fun c_7 => ?_)
      ·
        have hE := hE.trans (if_pos c_7)
        refine lv_bipush (v := 20) hx hb dX0_move_76 (by decide) ?_
        exact J78 (20 : Int32) ls (lv_sub hl [0] rfl) hE
      ·
        have hE := hE.trans (if_neg c_7)
        refine lv_bipush (v := 10) hx hb dX0_move_71 (by decide) ?_
        refine lv_goto (tgt := 78) hx hb dX0_move_73 (by decide) ?_
        exact J78 (10 : Int32) ls (lv_sub hl [0] rfl) hE
    ·
      have hE := hE.trans (if_neg c_6)
      by_cases c_9 : mo = 2
      ·
        have hE := hE.trans (if_pos c_9)
        refine lv_tableIn (tgt := 84) (off := 83) hx hb dX0_move_1 (by rw [c_9]; decide) (by rw [c_9]; decide) (by rw [c_9]; rfl) (by decide) ?_
        refine lv_aload_n hx hb dX0_move_84 rfl (lv_at hl 0 rfl) ?_
        refine lv_aload_n hx hb dX0_move_85 rfl (lv_at hl 0 rfl) ?_
        refine va_get (D := (dC, dI)) (ci := 0) (v := .int ban) (C := RX0) (T := TX0) (N := 7) hx hb hts i_X0 hown hK hP 0 rfl rfl 1 (by decide) w_5 (fun _ h9 => h9) rfl dX0_move_86 ?_
        refine lv_iload_n hx hb dX0_move_89 rfl (lv_at hl 2 rfl) ?_
        have J98 : ∀ (t0_98 : Int32) (ls : Array Slot) (hl : lv_has ls 3 [(0, .ref qb)]) (hE : (x_X0_move bln ban bsl bhe bte bma mo slo) = x_X0_move_j98 bln ban bsl bhe bte t0_98), W p l e (headSpec wqX0_move ({ frames := 2, cells := 0, slots := 0, locals := 42 } : Room)).room s m ([.ref qb, .int mo, .int slo] : List Value).toArray below meth c s.heap [] 0 0 (MQ below (va_Qv (fun u : Int32 × Int32 × Int32 × Int32 × Int32 => u = (x_X0_move bln ban bsl bhe bte bma mo slo)) (fun (u : Int32 × Int32 × Int32 × Int32 × Int32) t => va_P (dC, dI) vwCl [(qb, .inr (0, [.int (u.1), .int (u.2.1), .int (u.2.2.1), .int (u.2.2.2.1), .int (u.2.2.2.2), .int bma, .int bta]))] t.heap ∧ va_D A [(qb, .inr (0, [.int (u.1), .int (u.2.1), .int (u.2.2.1), .int (u.2.2.2.1), .int (u.2.2.2.2), .int bma, .int bta]))]) A) ([.ref qb, .int mo, .int slo] : List Value).toArray s 0 0 A) (F0 m 98 ls [.int t0_98, .int ban, .ref qb]) := by
          intro t0_98 ls hl hE
          refine lv_iadd hx hb dX0_move_98 ?_
          refine lv_sipush (v := 850) hx hb dX0_move_99 (by decide) ?_
          refine va_mmin hx hb (hml.trans hl.1.symm) hown w_1 w_2 w_3 w_4 (Nat.le_of_ble_eq_true rfl) (Nat.le_of_ble_eq_true rfl) (Nat.le_of_ble_eq_true rfl) (Nat.le_of_ble_eq_true rfl) dX0_move_102 ?_
          refine lv_topi (fun x_11 ex_11 => ?_)
          have hE := hE.trans (spLet_eq ex_11)
          refine va_put (D := (dC, dI)) (ci := 0) (v := .int x_11) (ty := .int) (C := RX0) (T := TX0) (N := 7) hx hb hts i_X0 tyX0 tyX0_ok nmX0 hown hK hP hD hS 0 rfl rfl 1 (by decide) w_5 (fun _ h9 => h9) rfl (by decide +kernel) (rfl) (rfl) (Nat.le_of_ble_eq_true rfl) dX0_move_105 (fun H locs hP hD hS => ?_)
          have hP : va_P (dC, dI) vwCl [(qb, .inr (0, [.int bln, .int x_11, .int bsl, .int bhe, .int bte, .int bma, .int bta]))] H := hP
          have hD : va_D A [(qb, .inr (0, [.int bln, .int x_11, .int bsl, .int bhe, .int bte, .int bma, .int bta]))] := hD
          refine lv_goto (tgt := 250) hx hb dX0_move_108 (by decide) ?_
          exact J250 bln x_11 bsl bhe bte _ _ hP hD hS ls (lv_sub hl [0] rfl) hE
        refine lv_if_eq (tgt := 97) hx hb dX0_move_90 (by decide) (fun c_10 => ?_) (fun c_10 => ?_)
        ·
          have hE := hE.trans (if_pos c_10)
          refine lv_iconst (v := 5) hx hb dX0_move_97 (by decide) ?_
          exact J98 (5 : Int32) ls (lv_sub hl [0] rfl) hE
        ·
          have hE := hE.trans (if_neg c_10)
          refine lv_iconst (v := 2) hx hb dX0_move_93 (by decide) ?_
          refine lv_goto (tgt := 98) hx hb dX0_move_94 (by decide) ?_
          exact J98 (2 : Int32) ls (lv_sub hl [0] rfl) hE
      ·
        have hE := hE.trans (if_neg c_9)
        by_cases c_12 : mo = 3
        ·
          have hE := hE.trans (if_pos c_12)
          refine lv_tableIn (tgt := 111) (off := 110) hx hb dX0_move_1 (by rw [c_12]; decide) (by rw [c_12]; decide) (by rw [c_12]; rfl) (by decide) ?_
          refine lv_aload_n hx hb dX0_move_111 rfl (lv_at hl 0 rfl) ?_
          refine lv_aload_n hx hb dX0_move_112 rfl (lv_at hl 0 rfl) ?_
          refine va_get (D := (dC, dI)) (ci := 0) (v := .int ban) (C := RX0) (T := TX0) (N := 7) hx hb hts i_X0 hown hK hP 0 rfl rfl 1 (by decide) w_5 (fun _ h9 => h9) rfl dX0_move_113 ?_
          refine lv_iload_n hx hb dX0_move_116 rfl (lv_at hl 2 rfl) ?_
          have J125 : ∀ (t0_125 : Int32) (ls : Array Slot) (hl : lv_has ls 3 [(0, .ref qb)]) (hE : (x_X0_move bln ban bsl bhe bte bma mo slo) = x_X0_move_j125 bln ban bsl bhe bte t0_125), W p l e (headSpec wqX0_move ({ frames := 2, cells := 0, slots := 0, locals := 42 } : Room)).room s m ([.ref qb, .int mo, .int slo] : List Value).toArray below meth c s.heap [] 0 0 (MQ below (va_Qv (fun u : Int32 × Int32 × Int32 × Int32 × Int32 => u = (x_X0_move bln ban bsl bhe bte bma mo slo)) (fun (u : Int32 × Int32 × Int32 × Int32 × Int32) t => va_P (dC, dI) vwCl [(qb, .inr (0, [.int (u.1), .int (u.2.1), .int (u.2.2.1), .int (u.2.2.2.1), .int (u.2.2.2.2), .int bma, .int bta]))] t.heap ∧ va_D A [(qb, .inr (0, [.int (u.1), .int (u.2.1), .int (u.2.2.1), .int (u.2.2.2.1), .int (u.2.2.2.2), .int bma, .int bta]))]) A) ([.ref qb, .int mo, .int slo] : List Value).toArray s 0 0 A) (F0 m 125 ls [.int t0_125, .int ban, .ref qb]) := by
            intro t0_125 ls hl hE
            refine lv_isub hx hb dX0_move_125 ?_
            refine lv_iconst (v := 0) hx hb dX0_move_126 (by decide) ?_
            refine va_mmax hx hb (hml.trans hl.1.symm) hown w_6 w_7 w_3 w_8 (Nat.le_of_ble_eq_true rfl) (Nat.le_of_ble_eq_true rfl) (Nat.le_of_ble_eq_true rfl) (Nat.le_of_ble_eq_true rfl) dX0_move_127 ?_
            refine lv_topi (fun x_14 ex_14 => ?_)
            have hE := hE.trans (spLet_eq ex_14)
            refine va_put (D := (dC, dI)) (ci := 0) (v := .int x_14) (ty := .int) (C := RX0) (T := TX0) (N := 7) hx hb hts i_X0 tyX0 tyX0_ok nmX0 hown hK hP hD hS 0 rfl rfl 1 (by decide) w_5 (fun _ h9 => h9) rfl (by decide +kernel) (rfl) (rfl) (Nat.le_of_ble_eq_true rfl) dX0_move_130 (fun H locs hP hD hS => ?_)
            have hP : va_P (dC, dI) vwCl [(qb, .inr (0, [.int bln, .int x_14, .int bsl, .int bhe, .int bte, .int bma, .int bta]))] H := hP
            have hD : va_D A [(qb, .inr (0, [.int bln, .int x_14, .int bsl, .int bhe, .int bte, .int bma, .int bta]))] := hD
            refine lv_goto (tgt := 250) hx hb dX0_move_133 (by decide) ?_
            exact J250 bln x_14 bsl bhe bte _ _ hP hD hS ls (lv_sub hl [0] rfl) hE
          refine lv_if_eq (tgt := 124) hx hb dX0_move_117 (by decide) (fun c_13 => ?_) (fun c_13 => ?_)
          ·
            have hE := hE.trans (if_pos c_13)
            refine lv_iconst (v := 5) hx hb dX0_move_124 (by decide) ?_
            exact J125 (5 : Int32) ls (lv_sub hl [0] rfl) hE
          ·
            have hE := hE.trans (if_neg c_13)
            refine lv_iconst (v := 2) hx hb dX0_move_120 (by decide) ?_
            refine lv_goto (tgt := 125) hx hb dX0_move_121 (by decide) ?_
            exact J125 (2 : Int32) ls (lv_sub hl [0] rfl) hE
        ·
          have hE := hE.trans (if_neg c_12)
          by_cases c_15 : mo = 4
          ·
            have hE := hE.trans (if_pos c_15)
            refine lv_tableIn (tgt := 136) (off := 135) hx hb dX0_move_1 (by rw [c_15]; decide) (by rw [c_15]; decide) (by rw [c_15]; rfl) (by decide) ?_
            refine lv_aload_n hx hb dX0_move_136 rfl (lv_at hl 0 rfl) ?_
            refine lv_aload_n hx hb dX0_move_137 rfl (lv_at hl 0 rfl) ?_
            refine va_get (D := (dC, dI)) (ci := 0) (v := .int bln) (C := RX0) (T := TX0) (N := 7) hx hb hts i_X0 hown hK hP 0 rfl rfl 0 (by decide) w_9 (fun _ h9 => h9) rfl dX0_move_138 ?_
            refine lv_iload_n hx hb dX0_move_141 rfl (lv_at hl 2 rfl) ?_
            have J151 : ∀ (t0_151 : Int32) (ls : Array Slot) (hl : lv_has ls 3 [(0, .ref qb)]) (hE : (x_X0_move bln ban bsl bhe bte bma mo slo) = x_X0_move_j151 bln ban bsl bhe bte t0_151), W p l e (headSpec wqX0_move ({ frames := 2, cells := 0, slots := 0, locals := 42 } : Room)).room s m ([.ref qb, .int mo, .int slo] : List Value).toArray below meth c s.heap [] 0 0 (MQ below (va_Qv (fun u : Int32 × Int32 × Int32 × Int32 × Int32 => u = (x_X0_move bln ban bsl bhe bte bma mo slo)) (fun (u : Int32 × Int32 × Int32 × Int32 × Int32) t => va_P (dC, dI) vwCl [(qb, .inr (0, [.int (u.1), .int (u.2.1), .int (u.2.2.1), .int (u.2.2.2.1), .int (u.2.2.2.2), .int bma, .int bta]))] t.heap ∧ va_D A [(qb, .inr (0, [.int (u.1), .int (u.2.1), .int (u.2.2.1), .int (u.2.2.2.1), .int (u.2.2.2.2), .int bma, .int bta]))]) A) ([.ref qb, .int mo, .int slo] : List Value).toArray s 0 0 A) (F0 m 151 ls [.int t0_151, .int bln, .ref qb]) := by
              intro t0_151 ls hl hE
              refine lv_iadd hx hb dX0_move_151 ?_
              refine lv_sipush (v := 6000) hx hb dX0_move_152 (by decide) ?_
              refine va_mmin hx hb (hml.trans hl.1.symm) hown w_1 w_2 w_3 w_4 (Nat.le_of_ble_eq_true rfl) (Nat.le_of_ble_eq_true rfl) (Nat.le_of_ble_eq_true rfl) (Nat.le_of_ble_eq_true rfl) dX0_move_155 ?_
              refine lv_topi (fun x_17 ex_17 => ?_)
              have hE := hE.trans (spLet_eq ex_17)
              refine va_put (D := (dC, dI)) (ci := 0) (v := .int x_17) (ty := .int) (C := RX0) (T := TX0) (N := 7) hx hb hts i_X0 tyX0 tyX0_ok nmX0 hown hK hP hD hS 0 rfl rfl 0 (by decide) w_9 (fun _ h9 => h9) rfl (by decide +kernel) (rfl) (rfl) (Nat.le_of_ble_eq_true rfl) dX0_move_158 (fun H locs hP hD hS => ?_)
              have hP : va_P (dC, dI) vwCl [(qb, .inr (0, [.int x_17, .int ban, .int bsl, .int bhe, .int bte, .int bma, .int bta]))] H := hP
              have hD : va_D A [(qb, .inr (0, [.int x_17, .int ban, .int bsl, .int bhe, .int bte, .int bma, .int bta]))] := hD
              refine lv_goto (tgt := 250) hx hb dX0_move_161 (by decide) ?_
              exact J250 x_17 ban bsl bhe bte _ _ hP hD hS ls (lv_sub hl [0] rfl) hE
            refine lv_if_eq (tgt := 149) hx hb dX0_move_142 (by decide) (fun c_16 => ?_) (fun c_16 => ?_)
            ·
              have hE := hE.trans (if_pos c_16)
              refine lv_bipush (v := 10) hx hb dX0_move_149 (by decide) ?_
              exact J151 (10 : Int32) ls (lv_sub hl [0] rfl) hE
            ·
              have hE := hE.trans (if_neg c_16)
              refine lv_iconst (v := 5) hx hb dX0_move_145 (by decide) ?_
              refine lv_goto (tgt := 151) hx hb dX0_move_146 (by decide) ?_
              exact J151 (5 : Int32) ls (lv_sub hl [0] rfl) hE
          ·
            have hE := hE.trans (if_neg c_15)
            by_cases c_18 : mo = 5
            ·
              have hE := hE.trans (if_pos c_18)
              refine lv_tableIn (tgt := 164) (off := 163) hx hb dX0_move_1 (by rw [c_18]; decide) (by rw [c_18]; decide) (by rw [c_18]; rfl) (by decide) ?_
              refine lv_aload_n hx hb dX0_move_164 rfl (lv_at hl 0 rfl) ?_
              refine lv_aload_n hx hb dX0_move_165 rfl (lv_at hl 0 rfl) ?_
              refine va_get (D := (dC, dI)) (ci := 0) (v := .int bln) (C := RX0) (T := TX0) (N := 7) hx hb hts i_X0 hown hK hP 0 rfl rfl 0 (by decide) w_9 (fun _ h9 => h9) rfl dX0_move_166 ?_
              refine lv_iload_n hx hb dX0_move_169 rfl (lv_at hl 2 rfl) ?_
              have J179 : ∀ (t0_179 : Int32) (ls : Array Slot) (hl : lv_has ls 3 [(0, .ref qb)]) (hE : (x_X0_move bln ban bsl bhe bte bma mo slo) = x_X0_move_j179 bln ban bsl bhe bte t0_179), W p l e (headSpec wqX0_move ({ frames := 2, cells := 0, slots := 0, locals := 42 } : Room)).room s m ([.ref qb, .int mo, .int slo] : List Value).toArray below meth c s.heap [] 0 0 (MQ below (va_Qv (fun u : Int32 × Int32 × Int32 × Int32 × Int32 => u = (x_X0_move bln ban bsl bhe bte bma mo slo)) (fun (u : Int32 × Int32 × Int32 × Int32 × Int32) t => va_P (dC, dI) vwCl [(qb, .inr (0, [.int (u.1), .int (u.2.1), .int (u.2.2.1), .int (u.2.2.2.1), .int (u.2.2.2.2), .int bma, .int bta]))] t.heap ∧ va_D A [(qb, .inr (0, [.int (u.1), .int (u.2.1), .int (u.2.2.1), .int (u.2.2.2.1), .int (u.2.2.2.2), .int bma, .int bta]))]) A) ([.ref qb, .int mo, .int slo] : List Value).toArray s 0 0 A) (F0 m 179 ls [.int t0_179, .int bln, .ref qb]) := by
                intro t0_179 ls hl hE
                refine lv_isub hx hb dX0_move_179 ?_
                refine lv_sipush (v := 1000) hx hb dX0_move_180 (by decide) ?_
                refine va_mmax hx hb (hml.trans hl.1.symm) hown w_6 w_7 w_3 w_8 (Nat.le_of_ble_eq_true rfl) (Nat.le_of_ble_eq_true rfl) (Nat.le_of_ble_eq_true rfl) (Nat.le_of_ble_eq_true rfl) dX0_move_183 ?_
                refine lv_topi (fun x_20 ex_20 => ?_)
                have hE := hE.trans (spLet_eq ex_20)
                refine va_put (D := (dC, dI)) (ci := 0) (v := .int x_20) (ty := .int) (C := RX0) (T := TX0) (N := 7) hx hb hts i_X0 tyX0 tyX0_ok nmX0 hown hK hP hD hS 0 rfl rfl 0 (by decide) w_9 (fun _ h9 => h9) rfl (by decide +kernel) (rfl) (rfl) (Nat.le_of_ble_eq_true rfl) dX0_move_186 (fun H locs hP hD hS => ?_)
                have hP : va_P (dC, dI) vwCl [(qb, .inr (0, [.int x_20, .int ban, .int bsl, .int bhe, .int bte, .int bma, .int bta]))] H := hP
                have hD : va_D A [(qb, .inr (0, [.int x_20, .int ban, .int bsl, .int bhe, .int bte, .int bma, .int bta]))] := hD
                refine lv_goto (tgt := 250) hx hb dX0_move_189 (by decide) ?_
                exact J250 x_20 ban bsl bhe bte _ _ hP hD hS ls (lv_sub hl [0] rfl) hE
              refine lv_if_eq (tgt := 177) hx hb dX0_move_170 (by decide) (fun c_19 => ?_) (fun c_19 => ?_)
              ·
                have hE := hE.trans (if_pos c_19)
                refine lv_bipush (v := 10) hx hb dX0_move_177 (by decide) ?_
                exact J179 (10 : Int32) ls (lv_sub hl [0] rfl) hE
              ·
                have hE := hE.trans (if_neg c_19)
                refine lv_iconst (v := 5) hx hb dX0_move_173 (by decide) ?_
                refine lv_goto (tgt := 179) hx hb dX0_move_174 (by decide) ?_
                exact J179 (5 : Int32) ls (lv_sub hl [0] rfl) hE
            ·
              have hE := hE.trans (if_neg c_18)
              by_cases c_21 : mo = 6
              ·
                have hE := hE.trans (if_pos c_21)
                refine lv_tableIn (tgt := 192) (off := 191) hx hb dX0_move_1 (by rw [c_21]; decide) (by rw [c_21]; decide) (by rw [c_21]; rfl) (by decide) ?_
                refine lv_aload_n hx hb dX0_move_192 rfl (lv_at hl 0 rfl) ?_
                refine lv_aload_n hx hb dX0_move_193 rfl (lv_at hl 0 rfl) ?_
                refine va_get (D := (dC, dI)) (ci := 0) (v := .int bsl) (C := RX0) (T := TX0) (N := 7) hx hb hts i_X0 hown hK hP 0 rfl rfl 2 (by decide) w_10 (fun _ h9 => h9) rfl dX0_move_194 ?_
                refine lv_iload_n hx hb dX0_move_197 rfl (lv_at hl 2 rfl) ?_
                have J208 : ∀ (t0_208 : Int32) (ls : Array Slot) (hl : lv_has ls 3 [(0, .ref qb)]) (hE : (x_X0_move bln ban bsl bhe bte bma mo slo) = x_X0_move_j208 bln ban bsl bhe bte t0_208), W p l e (headSpec wqX0_move ({ frames := 2, cells := 0, slots := 0, locals := 42 } : Room)).room s m ([.ref qb, .int mo, .int slo] : List Value).toArray below meth c s.heap [] 0 0 (MQ below (va_Qv (fun u : Int32 × Int32 × Int32 × Int32 × Int32 => u = (x_X0_move bln ban bsl bhe bte bma mo slo)) (fun (u : Int32 × Int32 × Int32 × Int32 × Int32) t => va_P (dC, dI) vwCl [(qb, .inr (0, [.int (u.1), .int (u.2.1), .int (u.2.2.1), .int (u.2.2.2.1), .int (u.2.2.2.2), .int bma, .int bta]))] t.heap ∧ va_D A [(qb, .inr (0, [.int (u.1), .int (u.2.1), .int (u.2.2.1), .int (u.2.2.2.1), .int (u.2.2.2.2), .int bma, .int bta]))]) A) ([.ref qb, .int mo, .int slo] : List Value).toArray s 0 0 A) (F0 m 208 ls [.int t0_208, .int bsl, .ref qb]) := by
                  intro t0_208 ls hl hE
                  refine lv_iadd hx hb dX0_move_208 ?_
                  refine lv_sipush (v := 3600) hx hb dX0_move_209 (by decide) ?_
                  refine lv_irem hx hb dX0_move_212 (by decide) ?_
                  refine lv_topi (fun x_23 ex_23 => ?_)
                  have hE := hE.trans (spLet_eq ex_23)
                  refine va_put (D := (dC, dI)) (ci := 0) (v := .int x_23) (ty := .int) (C := RX0) (T := TX0) (N := 7) hx hb hts i_X0 tyX0 tyX0_ok nmX0 hown hK hP hD hS 0 rfl rfl 2 (by decide) w_10 (fun _ h9 => h9) rfl (by decide +kernel) (rfl) (rfl) (Nat.le_of_ble_eq_true rfl) dX0_move_213 (fun H locs hP hD hS => ?_)
                  have hP : va_P (dC, dI) vwCl [(qb, .inr (0, [.int bln, .int ban, .int x_23, .int bhe, .int bte, .int bma, .int bta]))] H := hP
                  have hD : va_D A [(qb, .inr (0, [.int bln, .int ban, .int x_23, .int bhe, .int bte, .int bma, .int bta]))] := hD
                  refine lv_goto (tgt := 250) hx hb dX0_move_216 (by decide) ?_
                  exact J250 bln ban x_23 bhe bte _ _ hP hD hS ls (lv_sub hl [0] rfl) hE
                refine lv_if_eq (tgt := 206) hx hb dX0_move_198 (by decide) (fun c_22 => ?_) (fun c_22 => ?_)
                ·
                  have hE := hE.trans (if_pos c_22)
                  refine lv_bipush (v := 15) hx hb dX0_move_206 (by decide) ?_
                  exact J208 (15 : Int32) ls (lv_sub hl [0] rfl) hE
                ·
                  have hE := hE.trans (if_neg c_22)
                  refine lv_bipush (v := 7) hx hb dX0_move_201 (by decide) ?_
                  refine lv_goto (tgt := 208) hx hb dX0_move_203 (by decide) ?_
                  exact J208 (7 : Int32) ls (lv_sub hl [0] rfl) hE
              ·
                have hE := hE.trans (if_neg c_21)
                by_cases c_24 : mo = 7
                ·
                  have hE := hE.trans (if_pos c_24)
                  refine lv_tableIn (tgt := 219) (off := 218) hx hb dX0_move_1 (by rw [c_24]; decide) (by rw [c_24]; decide) (by rw [c_24]; rfl) (by decide) ?_
                  refine lv_aload_n hx hb dX0_move_219 rfl (lv_at hl 0 rfl) ?_
                  refine lv_aload_n hx hb dX0_move_220 rfl (lv_at hl 0 rfl) ?_
                  refine va_get (D := (dC, dI)) (ci := 0) (v := .int bsl) (C := RX0) (T := TX0) (N := 7) hx hb hts i_X0 hown hK hP 0 rfl rfl 2 (by decide) w_10 (fun _ h9 => h9) rfl dX0_move_221 ?_
                  refine lv_sipush (v := 3600) hx hb dX0_move_224 (by decide) ?_
                  refine lv_iadd hx hb dX0_move_227 ?_
                  refine lv_iload_n hx hb dX0_move_228 rfl (lv_at hl 2 rfl) ?_
                  have J239 : ∀ (t0_239 : Int32) (ls : Array Slot) (hl : lv_has ls 3 [(0, .ref qb)]) (hE : (x_X0_move bln ban bsl bhe bte bma mo slo) = x_X0_move_j239 bln ban bsl bhe bte t0_239), W p l e (headSpec wqX0_move ({ frames := 2, cells := 0, slots := 0, locals := 42 } : Room)).room s m ([.ref qb, .int mo, .int slo] : List Value).toArray below meth c s.heap [] 0 0 (MQ below (va_Qv (fun u : Int32 × Int32 × Int32 × Int32 × Int32 => u = (x_X0_move bln ban bsl bhe bte bma mo slo)) (fun (u : Int32 × Int32 × Int32 × Int32 × Int32) t => va_P (dC, dI) vwCl [(qb, .inr (0, [.int (u.1), .int (u.2.1), .int (u.2.2.1), .int (u.2.2.2.1), .int (u.2.2.2.2), .int bma, .int bta]))] t.heap ∧ va_D A [(qb, .inr (0, [.int (u.1), .int (u.2.1), .int (u.2.2.1), .int (u.2.2.2.1), .int (u.2.2.2.2), .int bma, .int bta]))]) A) ([.ref qb, .int mo, .int slo] : List Value).toArray s 0 0 A) (F0 m 239 ls [.int t0_239, .int (bsl + (3600 : Int32)), .ref qb]) := by
                    intro t0_239 ls hl hE
                    refine lv_isub hx hb dX0_move_239 ?_
                    refine lv_sipush (v := 3600) hx hb dX0_move_240 (by decide) ?_
                    refine lv_irem hx hb dX0_move_243 (by decide) ?_
                    refine lv_topi (fun x_26 ex_26 => ?_)
                    have hE := hE.trans (spLet_eq ex_26)
                    refine va_put (D := (dC, dI)) (ci := 0) (v := .int x_26) (ty := .int) (C := RX0) (T := TX0) (N := 7) hx hb hts i_X0 tyX0 tyX0_ok nmX0 hown hK hP hD hS 0 rfl rfl 2 (by decide) w_10 (fun _ h9 => h9) rfl (by decide +kernel) (rfl) (rfl) (Nat.le_of_ble_eq_true rfl) dX0_move_244 (fun H locs hP hD hS => ?_)
                    have hP : va_P (dC, dI) vwCl [(qb, .inr (0, [.int bln, .int ban, .int x_26, .int bhe, .int bte, .int bma, .int bta]))] H := hP
                    have hD : va_D A [(qb, .inr (0, [.int bln, .int ban, .int x_26, .int bhe, .int bte, .int bma, .int bta]))] := hD
                    refine lv_goto (tgt := 250) hx hb dX0_move_247 (by decide) ?_
                    exact J250 bln ban x_26 bhe bte _ _ hP hD hS ls (lv_sub hl [0] rfl) hE
                  refine lv_if_eq (tgt := 237) hx hb dX0_move_229 (by decide) (fun c_25 => ?_) (fun c_25 => ?_)
                  ·
                    have hE := hE.trans (if_pos c_25)
                    refine lv_bipush (v := 15) hx hb dX0_move_237 (by decide) ?_
                    exact J239 (15 : Int32) ls (lv_sub hl [0] rfl) hE
                  ·
                    have hE := hE.trans (if_neg c_25)
                    refine lv_bipush (v := 7) hx hb dX0_move_232 (by decide) ?_
                    refine lv_goto (tgt := 239) hx hb dX0_move_234 (by decide) ?_
                    exact J239 (7 : Int32) ls (lv_sub hl [0] rfl) hE
                ·
                  have hE := hE.trans (if_neg c_24)
                  refine lv_tableOut (tgt := 250) hx hb dX0_move_1 (by
                      have n_c_3 : ¬ (mo).toInt = 0 := lv_neT c_3 rfl
                      have n_c_6 : ¬ (mo).toInt = 1 := lv_neT c_6 rfl
                      have n_c_9 : ¬ (mo).toInt = 2 := lv_neT c_9 rfl
                      have n_c_12 : ¬ (mo).toInt = 3 := lv_neT c_12 rfl
                      have n_c_15 : ¬ (mo).toInt = 4 := lv_neT c_15 rfl
                      have n_c_18 : ¬ (mo).toInt = 5 := lv_neT c_18 rfl
                      have n_c_21 : ¬ (mo).toInt = 6 := lv_neT c_21 rfl
                      have n_c_24 : ¬ (mo).toInt = 7 := lv_neT c_24 rfl
                      omega) (by decide) ?_
                  exact J250 bln ban bsl bhe bte _ _ hP hD hS ls (lv_sub hl [0] rfl) hE
def x_X0_isAtEnd (bln : Int32) (ban : Int32) (bhe : Int32) (bte : Int32) (bma : Int32) (mo : Int32) : Int32 :=
  if mo = 0 then (spLet (x_X0_takesUpLoad bte bma) (fun r_2 => if r_2 = 0 then (spLet (x_X0_tip bln ban) (fun r_4 => if bhe = (r_4 - (200 : Int32)) then (1 : Int32) else (0 : Int32))) else (0 : Int32))) else (if mo = 1 then (if bhe = 0 then (if bte = 0 then (1 : Int32) else (0 : Int32)) else (0 : Int32)) else (if mo = 2 then (if ban = (850 : Int32) then (1 : Int32) else (0 : Int32)) else (if mo = 3 then (if ban = 0 then (1 : Int32) else (0 : Int32)) else (if mo = 4 then (if bln = (6000 : Int32) then (1 : Int32) else (0 : Int32)) else (if mo = 5 then (if bln = (1000 : Int32) then (1 : Int32) else (0 : Int32)) else (0 : Int32))))))
set_option maxHeartbeats 1000000 in
set_option maxRecDepth 100000 in
theorem c_X0_isAtEnd (l : Launch) (dC : Nat → ClassId) (dI : Nat → Nat → Nat) (cyI : ClassId) (qb : Nat) (bln : Int32) (ban : Int32) (bsl : Int32) (bhe : Int32) (bte : Int32) (bma : Int32) (bta : Int32) (mo : Int32) : Met l yX0_isAtEnd wqX0_isAtEnd ({ frames := 2, cells := 0, slots := 0, locals := 42 } : Room) (va_Pc [.ref qb, .int mo] (pB (dC, dI) [(qb, .inr (0, [.int bln, .int ban, .int bsl, .int bhe, .int bte, .int bma, .int bta]))] [(cyI, .int)] eX)) (vp_Si (fun r => r = (x_X0_isAtEnd bln ban bhe bte bma mo) ∧ (r = 0 ∨ r = 1))) 0 0 aF := by
  refine Met.ofW (cc := cX0_isAtEnd) (maxL := 2) (ret := (some .boolean)) (by decide) rfl ?_
  intro p e s m args below meth c s₁ B hml hv
  obtain ⟨rfl, hP, hK, he⟩ := hv
  have hx := B.exec
  have hb := B.bytes
  have hr := B.returns
  have hts := atoms_spec (ws := wqX0_isAtEnd) B.pre
  have hown : s.vm.findClass RX0 = some m.cls := findClass_of_methodNamed B.named
  have hlocks := B.notSynchronized
  have w_0 := hts (Cond.fieldLink RX0 24 "CraneLimiter$Boom" "height" "I") (List.mem_cons_of_mem _ b_143)
  have w_1 := hts (Cond.fieldLink RX0 27 "CraneLimiter$Boom" "tension" "I") (List.mem_cons_of_mem _ b_144)
  have w_2 := hts (Cond.fieldLink RX0 15 "CraneLimiter$Boom" "angle" "I") (List.mem_cons_of_mem _ b_57)
  have w_3 := hts (Cond.fieldLink RX0 9 "CraneLimiter$Boom" "length" "I") (List.mem_cons_of_mem _ b_56)
  have i_X0 : ∀ w ∈ u_ws RX0 TX0 7, w ∈ wqX0_isAtEnd := fun w h => List.mem_cons_of_mem _ (bX0 w h)
  have hS : va_S aF s.heap s.heap [] := va_S.rf
  have hP : va_P (dC, dI) vwCl [(qb, .inr (0, [.int bln, .int ban, .int bsl, .int bhe, .int bte, .int bma, .int bta]))] s.heap := hP
  have hl := lv_entry ([.ref qb, .int mo] : List Value) (n := 2) (Nat.le_of_ble_eq_true rfl)
  rw [lg_entry_eq]
  generalize (lg_sl ([.ref qb, .int mo] : List Value) ++ List.replicate (2 - (lg_sl ([.ref qb, .int mo] : List Value)).length) Slot.unset).toArray = ls at hl ⊢
  have hl : lv_has ls 2 [(0, .ref qb), (1, .int mo)] := hl
  have hE : x_X0_isAtEnd bln ban bhe bte bma mo = x_X0_isAtEnd bln ban bhe bte bma mo := rfl
  refine lv_iload_n hx hb dX0_isAtEnd_0 rfl (lv_at hl 1 rfl) ?_
  by_cases c_1 : mo = 0
  ·
    have hE := hE.trans (if_pos c_1)
    refine lv_tableIn (tgt := 40) (off := 39) hx hb dX0_isAtEnd_1 (by rw [c_1]; decide) (by rw [c_1]; decide) (by rw [c_1]; rfl) (by decide) ?_
    refine lv_aload_n hx hb dX0_isAtEnd_40 rfl (lv_at hl 0 rfl) ?_
    refine vp_callSi (W.runV (As := []) (rest := []) ⟨hx, hb, hml, hown, hts⟩ (c_X0_takesUpLoad l dC dI cyI qb bln ban bsl bhe bte bma bta) (cwV 0 hts (gBV b_490 b_491 b_492 b_30 b_493) rfl rfl rfl (by decide +kernel) ⟨Nat.le_of_ble_eq_true rfl, Nat.le_of_ble_eq_true rfl⟩) (pre_v eX_ok he hS hP hK 0 rfl rfl rfl) rfl rfl hl.1 rfl (lv_room (Nat.le_of_ble_eq_true rfl)) dX0_isAtEnd_41 ⟨Nat.zero_le _, Nat.zero_le _⟩) (fun r_2 hr_2 => ?_)
    obtain ⟨hr_2, hbr_2⟩ := hr_2
    have hE := hE.trans (spLet_eq hr_2)
    refine lv_if_ne (tgt := 66) hx hb dX0_isAtEnd_44 (by decide) (fun c_3 => ?_) (fun c_3 => ?_)
    ·
      have hE := hE.trans (if_neg c_3)
      refine lv_iconst (v := 0) hx hb dX0_isAtEnd_66 (by decide) ?_
      exact W.zret (v := (0 : Int32)) hx hb hr rfl (fun t ht hW => ⟨_, rfl, ⟨hE.symm, (by decide)⟩, ht⟩) (fun q h => by cases h) dX0_isAtEnd_67
    ·
      have hE := hE.trans (if_pos c_3)
      refine lv_aload_n hx hb dX0_isAtEnd_47 rfl (lv_at hl 0 rfl) ?_
      refine va_get (D := (dC, dI)) (ci := 0) (v := .int bhe) (C := RX0) (T := TX0) (N := 7) hx hb hts i_X0 hown hK hP 0 rfl rfl 3 (by decide) w_0 (fun _ h9 => h9) rfl dX0_isAtEnd_48 ?_
      refine lv_aload_n hx hb dX0_isAtEnd_51 rfl (lv_at hl 0 rfl) ?_
      refine vp_callSi (W.runV (As := []) (rest := [.int bhe]) ⟨hx, hb, hml, hown, hts⟩ (c_X0_tip l dC dI cyI qb bln ban bsl bhe bte bma bta) (cwV 0 hts (gBV b_494 b_364 b_365 b_30 b_366) rfl rfl rfl (by decide +kernel) ⟨Nat.le_of_ble_eq_true rfl, Nat.le_of_ble_eq_true rfl⟩) (pre_v eX_ok he hS hP hK 0 rfl rfl rfl) rfl rfl hl.1 rfl (lv_room (Nat.le_of_ble_eq_true rfl)) dX0_isAtEnd_52 ⟨Nat.zero_le _, Nat.zero_le _⟩) (fun r_4 hr_4 => ?_)
      have hE := hE.trans (spLet_eq hr_4)
      refine lv_sipush (v := 200) hx hb dX0_isAtEnd_55 (by decide) ?_
      refine lv_isub hx hb dX0_isAtEnd_58 ?_
      refine lv_icmp_ne (tgt := 66) hx hb dX0_isAtEnd_59 (by decide) (fun c_5 => ?_) (fun c_5 => ?_)
      ·
        have hE := hE.trans (if_neg c_5)
        refine lv_iconst (v := 0) hx hb dX0_isAtEnd_66 (by decide) ?_
        exact W.zret (v := (0 : Int32)) hx hb hr rfl (fun t ht hW => ⟨_, rfl, ⟨hE.symm, (by decide)⟩, ht⟩) (fun q h => by cases h) dX0_isAtEnd_67
      ·
        have hE := hE.trans (if_pos c_5)
        refine lv_iconst (v := 1) hx hb dX0_isAtEnd_62 (by decide) ?_
        refine lv_goto (tgt := 67) hx hb dX0_isAtEnd_63 (by decide) ?_
        exact W.zret (v := (1 : Int32)) hx hb hr rfl (fun t ht hW => ⟨_, rfl, ⟨hE.symm, (by decide)⟩, ht⟩) (fun q h => by cases h) dX0_isAtEnd_67
  ·
    have hE := hE.trans (if_neg c_1)
    by_cases c_6 : mo = 1
    ·
      have hE := hE.trans (if_pos c_6)
      refine lv_tableIn (tgt := 68) (off := 67) hx hb dX0_isAtEnd_1 (by rw [c_6]; decide) (by rw [c_6]; decide) (by rw [c_6]; rfl) (by decide) ?_
      refine lv_aload_n hx hb dX0_isAtEnd_68 rfl (lv_at hl 0 rfl) ?_
      refine va_get (D := (dC, dI)) (ci := 0) (v := .int bhe) (C := RX0) (T := TX0) (N := 7) hx hb hts i_X0 hown hK hP 0 rfl rfl 3 (by decide) w_0 (fun _ h9 => h9) rfl dX0_isAtEnd_69 ?_
      refine lv_if_ne (tgt := 86) hx hb dX0_isAtEnd_72 (by decide) (fun c_7 => ?_) (fun c_7 => ?_)
      ·
        have hE := hE.trans (if_neg c_7)
        refine lv_iconst (v := 0) hx hb dX0_isAtEnd_86 (by decide) ?_
        exact W.zret (v := (0 : Int32)) hx hb hr rfl (fun t ht hW => ⟨_, rfl, ⟨hE.symm, (by decide)⟩, ht⟩) (fun q h => by cases h) dX0_isAtEnd_87
      ·
        have hE := hE.trans (if_pos c_7)
        refine lv_aload_n hx hb dX0_isAtEnd_75 rfl (lv_at hl 0 rfl) ?_
        refine va_get (D := (dC, dI)) (ci := 0) (v := .int bte) (C := RX0) (T := TX0) (N := 7) hx hb hts i_X0 hown hK hP 0 rfl rfl 4 (by decide) w_1 (fun _ h9 => h9) rfl dX0_isAtEnd_76 ?_
        refine lv_if_ne (tgt := 86) hx hb dX0_isAtEnd_79 (by decide) (fun c_8 => ?_) (fun c_8 => ?_)
        ·
          have hE := hE.trans (if_neg c_8)
          refine lv_iconst (v := 0) hx hb dX0_isAtEnd_86 (by decide) ?_
          exact W.zret (v := (0 : Int32)) hx hb hr rfl (fun t ht hW => ⟨_, rfl, ⟨hE.symm, (by decide)⟩, ht⟩) (fun q h => by cases h) dX0_isAtEnd_87
        ·
          have hE := hE.trans (if_pos c_8)
          refine lv_iconst (v := 1) hx hb dX0_isAtEnd_82 (by decide) ?_
          refine lv_goto (tgt := 87) hx hb dX0_isAtEnd_83 (by decide) ?_
          exact W.zret (v := (1 : Int32)) hx hb hr rfl (fun t ht hW => ⟨_, rfl, ⟨hE.symm, (by decide)⟩, ht⟩) (fun q h => by cases h) dX0_isAtEnd_87
    ·
      have hE := hE.trans (if_neg c_6)
      by_cases c_9 : mo = 2
      ·
        have hE := hE.trans (if_pos c_9)
        refine lv_tableIn (tgt := 88) (off := 87) hx hb dX0_isAtEnd_1 (by rw [c_9]; decide) (by rw [c_9]; decide) (by rw [c_9]; rfl) (by decide) ?_
        refine lv_aload_n hx hb dX0_isAtEnd_88 rfl (lv_at hl 0 rfl) ?_
        refine va_get (D := (dC, dI)) (ci := 0) (v := .int ban) (C := RX0) (T := TX0) (N := 7) hx hb hts i_X0 hown hK hP 0 rfl rfl 1 (by decide) w_2 (fun _ h9 => h9) rfl dX0_isAtEnd_89 ?_
        refine lv_sipush (v := 850) hx hb dX0_isAtEnd_92 (by decide) ?_
        refine lv_icmp_ne (tgt := 102) hx hb dX0_isAtEnd_95 (by decide) (fun c_10 => ?_) (fun c_10 => ?_)
        ·
          have hE := hE.trans (if_neg c_10)
          refine lv_iconst (v := 0) hx hb dX0_isAtEnd_102 (by decide) ?_
          exact W.zret (v := (0 : Int32)) hx hb hr rfl (fun t ht hW => ⟨_, rfl, ⟨hE.symm, (by decide)⟩, ht⟩) (fun q h => by cases h) dX0_isAtEnd_103
        ·
          have hE := hE.trans (if_pos c_10)
          refine lv_iconst (v := 1) hx hb dX0_isAtEnd_98 (by decide) ?_
          refine lv_goto (tgt := 103) hx hb dX0_isAtEnd_99 (by decide) ?_
          exact W.zret (v := (1 : Int32)) hx hb hr rfl (fun t ht hW => ⟨_, rfl, ⟨hE.symm, (by decide)⟩, ht⟩) (fun q h => by cases h) dX0_isAtEnd_103
      ·
        have hE := hE.trans (if_neg c_9)
        by_cases c_11 : mo = 3
        ·
          have hE := hE.trans (if_pos c_11)
          refine lv_tableIn (tgt := 104) (off := 103) hx hb dX0_isAtEnd_1 (by rw [c_11]; decide) (by rw [c_11]; decide) (by rw [c_11]; rfl) (by decide) ?_
          refine lv_aload_n hx hb dX0_isAtEnd_104 rfl (lv_at hl 0 rfl) ?_
          refine va_get (D := (dC, dI)) (ci := 0) (v := .int ban) (C := RX0) (T := TX0) (N := 7) hx hb hts i_X0 hown hK hP 0 rfl rfl 1 (by decide) w_2 (fun _ h9 => h9) rfl dX0_isAtEnd_105 ?_
          refine lv_if_ne (tgt := 115) hx hb dX0_isAtEnd_108 (by decide) (fun c_12 => ?_) (fun c_12 => ?_)
          ·
            have hE := hE.trans (if_neg c_12)
            refine lv_iconst (v := 0) hx hb dX0_isAtEnd_115 (by decide) ?_
            exact W.zret (v := (0 : Int32)) hx hb hr rfl (fun t ht hW => ⟨_, rfl, ⟨hE.symm, (by decide)⟩, ht⟩) (fun q h => by cases h) dX0_isAtEnd_116
          ·
            have hE := hE.trans (if_pos c_12)
            refine lv_iconst (v := 1) hx hb dX0_isAtEnd_111 (by decide) ?_
            refine lv_goto (tgt := 116) hx hb dX0_isAtEnd_112 (by decide) ?_
            exact W.zret (v := (1 : Int32)) hx hb hr rfl (fun t ht hW => ⟨_, rfl, ⟨hE.symm, (by decide)⟩, ht⟩) (fun q h => by cases h) dX0_isAtEnd_116
        ·
          have hE := hE.trans (if_neg c_11)
          by_cases c_13 : mo = 4
          ·
            have hE := hE.trans (if_pos c_13)
            refine lv_tableIn (tgt := 117) (off := 116) hx hb dX0_isAtEnd_1 (by rw [c_13]; decide) (by rw [c_13]; decide) (by rw [c_13]; rfl) (by decide) ?_
            refine lv_aload_n hx hb dX0_isAtEnd_117 rfl (lv_at hl 0 rfl) ?_
            refine va_get (D := (dC, dI)) (ci := 0) (v := .int bln) (C := RX0) (T := TX0) (N := 7) hx hb hts i_X0 hown hK hP 0 rfl rfl 0 (by decide) w_3 (fun _ h9 => h9) rfl dX0_isAtEnd_118 ?_
            refine lv_sipush (v := 6000) hx hb dX0_isAtEnd_121 (by decide) ?_
            refine lv_icmp_ne (tgt := 131) hx hb dX0_isAtEnd_124 (by decide) (fun c_14 => ?_) (fun c_14 => ?_)
            ·
              have hE := hE.trans (if_neg c_14)
              refine lv_iconst (v := 0) hx hb dX0_isAtEnd_131 (by decide) ?_
              exact W.zret (v := (0 : Int32)) hx hb hr rfl (fun t ht hW => ⟨_, rfl, ⟨hE.symm, (by decide)⟩, ht⟩) (fun q h => by cases h) dX0_isAtEnd_132
            ·
              have hE := hE.trans (if_pos c_14)
              refine lv_iconst (v := 1) hx hb dX0_isAtEnd_127 (by decide) ?_
              refine lv_goto (tgt := 132) hx hb dX0_isAtEnd_128 (by decide) ?_
              exact W.zret (v := (1 : Int32)) hx hb hr rfl (fun t ht hW => ⟨_, rfl, ⟨hE.symm, (by decide)⟩, ht⟩) (fun q h => by cases h) dX0_isAtEnd_132
          ·
            have hE := hE.trans (if_neg c_13)
            by_cases c_15 : mo = 5
            ·
              have hE := hE.trans (if_pos c_15)
              refine lv_tableIn (tgt := 133) (off := 132) hx hb dX0_isAtEnd_1 (by rw [c_15]; decide) (by rw [c_15]; decide) (by rw [c_15]; rfl) (by decide) ?_
              refine lv_aload_n hx hb dX0_isAtEnd_133 rfl (lv_at hl 0 rfl) ?_
              refine va_get (D := (dC, dI)) (ci := 0) (v := .int bln) (C := RX0) (T := TX0) (N := 7) hx hb hts i_X0 hown hK hP 0 rfl rfl 0 (by decide) w_3 (fun _ h9 => h9) rfl dX0_isAtEnd_134 ?_
              refine lv_sipush (v := 1000) hx hb dX0_isAtEnd_137 (by decide) ?_
              refine lv_icmp_ne (tgt := 147) hx hb dX0_isAtEnd_140 (by decide) (fun c_16 => ?_) (fun c_16 => ?_)
              ·
                have hE := hE.trans (if_neg c_16)
                refine lv_iconst (v := 0) hx hb dX0_isAtEnd_147 (by decide) ?_
                exact W.zret (v := (0 : Int32)) hx hb hr rfl (fun t ht hW => ⟨_, rfl, ⟨hE.symm, (by decide)⟩, ht⟩) (fun q h => by cases h) dX0_isAtEnd_148
              ·
                have hE := hE.trans (if_pos c_16)
                refine lv_iconst (v := 1) hx hb dX0_isAtEnd_143 (by decide) ?_
                refine lv_goto (tgt := 148) hx hb dX0_isAtEnd_144 (by decide) ?_
                exact W.zret (v := (1 : Int32)) hx hb hr rfl (fun t ht hW => ⟨_, rfl, ⟨hE.symm, (by decide)⟩, ht⟩) (fun q h => by cases h) dX0_isAtEnd_148
            ·
              have hE := hE.trans (if_neg c_15)
              refine lv_tableOut (tgt := 149) hx hb dX0_isAtEnd_1 (by
                  have n_c_1 : ¬ (mo).toInt = 0 := lv_neT c_1 rfl
                  have n_c_6 : ¬ (mo).toInt = 1 := lv_neT c_6 rfl
                  have n_c_9 : ¬ (mo).toInt = 2 := lv_neT c_9 rfl
                  have n_c_11 : ¬ (mo).toInt = 3 := lv_neT c_11 rfl
                  have n_c_13 : ¬ (mo).toInt = 4 := lv_neT c_13 rfl
                  have n_c_15 : ¬ (mo).toInt = 5 := lv_neT c_15 rfl
                  omega) (by decide) ?_
              refine lv_iconst (v := 0) hx hb dX0_isAtEnd_149 (by decide) ?_
              exact W.zret (v := (0 : Int32)) hx hb hr rfl (fun t ht hW => ⟨_, rfl, ⟨hE.symm, (by decide)⟩, ht⟩) (fun q h => by cases h) dX0_isAtEnd_150
def x_X7_violation_j110 (k5_16 : Nat) (rec16 : Int32 → Nat → (Int32)) (v4_110 : Int32) : Int32 :=
  rec16 v4_110 (k5_16 + 4)
def x_X7_violation_b16 (zc : Int32) (zf : Nat → Int32) (bsl : Int32) (r_1 : Int32) (r_2 : Int32) (rec16 : Int32 → Nat → (Int32)) : Int32 → Nat → (Int32) :=
  fun v4_16 k5_16 => if (zc.toNatClampNeg * 4) ≤ k5_16 then v4_16 else (if 24 < (k5_16 + 4) then v4_16 else (spLet ((zf (k5_16))) (fun x_6 => spLet (x_X8_clockwise x_6 bsl) (fun r_7 => spLet (x_X8_clockwise x_6 (zf (k5_16 + 1))) (fun r_8 => if r_8 < r_7 then (x_X7_violation_j110 k5_16 rec16 v4_16) else (spLet ((v4_16 + ((if (r_1 - (zf (k5_16 + 2))) < (0 : Int32) then (0 : Int32) else (r_1 - (zf (k5_16 + 2)))) + (if (r_2 - (zf (k5_16 + 3))) < (0 : Int32) then (0 : Int32) else (r_2 - (zf (k5_16 + 3))))))) (fun x_10 => x_X7_violation_j110 k5_16 rec16 x_10)))))))
def x_X7_violation (zc : Int32) (zf : Nat → Int32) (bln : Int32) (ban : Int32) (bsl : Int32) : Int32 :=
  spLet (x_X0_radius bln ban) (fun r_1 => spLet (x_X0_tip bln ban) (fun r_2 => spIter (fun _ _ => default) (x_X7_violation_b16 zc zf bsl r_1 r_2) 7 (0 : Int32) 0))
set_option maxHeartbeats 1000000 in
set_option maxRecDepth 100000 in
theorem c_X7_violation (l : Launch) (dC : Nat → ClassId) (dI : Nat → Nat → Nat) (cyI : ClassId) (qz : Nat) (qzv : Nat) (zc : Int32) (zf : Nat → Int32) (qb : Nat) (bln : Int32) (ban : Int32) (bsl : Int32) (bhe : Int32) (bte : Int32) (bma : Int32) (bta : Int32) (hzc : 0 ≤ zc.toInt ∧ zc.toInt ≤ 6) : Met l yX7_violation wqX7_violation ({ frames := 2, cells := 0, slots := 0, locals := 42 } : Room) (va_Pc [.ref qz, .ref qb] (pB (dC, dI) [(qz, .inr (7, [.ref qzv, .int zc])), (qzv, .inl (cyI, 24, .inl zf)), (qb, .inr (0, [.int bln, .int ban, .int bsl, .int bhe, .int bte, .int bma, .int bta]))] [(cyI, .int)] eX)) (vp_Si (fun r => r = (x_X7_violation zc zf bln ban bsl))) 0 0 aF := by
  refine Met.ofW (cc := cX7_violation) (maxL := 7) (ret := (some .int)) (by decide) rfl ?_
  intro p e s m args below meth c s₁ B hml hv
  obtain ⟨rfl, hP, hK, he⟩ := hv
  have hx := B.exec
  have hb := B.bytes
  have hr := B.returns
  have hts := atoms_spec (ws := wqX7_violation) B.pre
  have hown : s.vm.findClass RX7 = some m.cls := findClass_of_methodNamed B.named
  have hlocks := B.notSynchronized
  have w_0 := hts (Cond.fieldLink RX7 19 "CraneLimiter$Zones" "count" "I") (List.mem_cons_of_mem _ b_160)
  have w_1 := hts (Cond.fieldLink RX7 9 "CraneLimiter$Zones" "values" "[I") (List.mem_cons_of_mem _ b_68)
  have w_2 := hts (Cond.fieldLink RX7 32 "CraneLimiter$Boom" "slew" "I") (List.mem_cons_of_mem _ b_350)
  have w_3 := hts (Cond.methodLink RX7 41 Lib.Math.max.name) (List.mem_cons_of_mem _ b_351)
  have w_4 := hts (Cond.static Lib.Math.max.name) (List.mem_cons_of_mem _ b_352)
  have w_5 := hts (Cond.initialized "java/lang/Math") (List.mem_cons_of_mem _ b_128)
  have w_6 := hts (Cond.code Lib.Math.max.name Lib.Math.max.code 2 (some .int)) (List.mem_cons_of_mem _ b_353)
  have i_X0 : ∀ w ∈ u_ws RX0 TX0 7, w ∈ wqX7_violation := fun w h => List.mem_cons_of_mem _ (bX0 w h)
  have i_X7 : ∀ w ∈ u_ws RX7 TX7 2, w ∈ wqX7_violation := fun w h => List.mem_cons_of_mem _ (bX7 w h)
  have hS : va_S aF s.heap s.heap [] := va_S.rf
  have hP : va_P (dC, dI) vwCl [(qz, .inr (7, [.ref qzv, .int zc])), (qzv, .inl (cyI, 24, .inl zf)), (qb, .inr (0, [.int bln, .int ban, .int bsl, .int bhe, .int bte, .int bma, .int bta]))] s.heap := hP
  have hl := lv_entry ([.ref qz, .ref qb] : List Value) (n := 7) (Nat.le_of_ble_eq_true rfl)
  rw [lg_entry_eq]
  generalize (lg_sl ([.ref qz, .ref qb] : List Value) ++ List.replicate (7 - (lg_sl ([.ref qz, .ref qb] : List Value)).length) Slot.unset).toArray = ls at hl ⊢
  have hl : lv_has ls 7 [(0, .ref qz), (1, .ref qb)] := hl
  have hE : x_X7_violation zc zf bln ban bsl = x_X7_violation zc zf bln ban bsl := rfl
  obtain ⟨hzn, hzb⟩ := nI_cl hzc.1
  refine lv_aload_n hx hb dX7_violation_0 rfl (lv_at hl 1 rfl) ?_
  refine vp_callSi (W.runV (As := []) (rest := []) ⟨hx, hb, hml, hown, hts⟩ (c_X0_radius l dC dI cyI qb bln ban bsl bhe bte bma bta) (cwV 0 hts (gBV b_354 b_355 b_356 b_30 b_357) rfl rfl rfl (by decide +kernel) ⟨Nat.le_of_ble_eq_true rfl, Nat.le_of_ble_eq_true rfl⟩) (pre_v eX_ok he hS (hP.sub (ws' := [(qb, .inr (0, [.int bln, .int ban, .int bsl, .int bhe, .int bte, .int bma, .int bta]))]) [2] rfl) hK 0 rfl rfl rfl) rfl rfl hl.1 rfl (lv_room (Nat.le_of_ble_eq_true rfl)) dX7_violation_1 ⟨Nat.zero_le _, Nat.zero_le _⟩) (fun r_1 hr_1 => ?_)
  have hE := hE.trans (spLet_eq hr_1)
  refine lv_istore_n (lv' := [(2, .int r_1), (0, .ref qz), (1, .ref qb)]) hx hb dX7_violation_4 rfl hl (by decide) rfl (fun ls hl => ?_)
  refine lv_aload_n hx hb dX7_violation_5 rfl (lv_at hl 2 rfl) ?_
  refine vp_callSi (W.runV (As := []) (rest := []) ⟨hx, hb, hml, hown, hts⟩ (c_X0_tip l dC dI cyI qb bln ban bsl bhe bte bma bta) (cwV 0 hts (gBV b_363 b_364 b_365 b_30 b_366) rfl rfl rfl (by decide +kernel) ⟨Nat.le_of_ble_eq_true rfl, Nat.le_of_ble_eq_true rfl⟩) (pre_v eX_ok he hS (hP.sub (ws' := [(qb, .inr (0, [.int bln, .int ban, .int bsl, .int bhe, .int bte, .int bma, .int bta]))]) [2] rfl) hK 0 rfl rfl rfl) rfl rfl hl.1 rfl (lv_room (Nat.le_of_ble_eq_true rfl)) dX7_violation_6 ⟨Nat.zero_le _, Nat.zero_le _⟩) (fun r_2 hr_2 => ?_)
  have hE := hE.trans (spLet_eq hr_2)
  refine lv_istore_n (lv' := [(3, .int r_2), (2, .int r_1), (0, .ref qz), (1, .ref qb)]) hx hb dX7_violation_9 rfl hl (by decide) rfl (fun ls hl => ?_)
  refine lv_iconst (v := 0) hx hb dX7_violation_10 (by decide) ?_
  refine lv_istore (lv' := [(4, .int (0 : Int32)), (3, .int r_2), (2, .int r_1), (0, .ref qz), (1, .ref qb)]) hx hb dX7_violation_11 hl (by decide) rfl (fun ls hl => ?_)
  refine lv_iconst (v := 0) hx hb dX7_violation_13 (by decide) ?_
  refine lv_istore (lv' := [(5, .int (0 : Int32)), (4, .int (0 : Int32)), (3, .int r_2), (2, .int r_1), (0, .ref qz), (1, .ref qb)]) hx hb dX7_violation_14 hl (by decide) rfl (fun ls hl => ?_)
  have L16 : ∀ (n16 : Nat) (v4_16 : Int32) (k5_16 : Nat) (hi : k5_16 ≤ 24 ∧ k5_16 % 4 = 0 ∧ 24 < k5_16 + 4 * n16) (ls : Array Slot) (hl : lv_has ls 7 [(0, .ref qz), (1, .ref qb), (2, .int r_1), (3, .int r_2), (4, .int v4_16), (5, .int (nI k5_16))]) (hE : (x_X7_violation zc zf bln ban bsl) = spIter (fun _ _ => default) (x_X7_violation_b16 zc zf bsl r_1 r_2) n16 v4_16 k5_16), W p l e (headSpec wqX7_violation ({ frames := 2, cells := 0, slots := 0, locals := 42 } : Room)).room s m ([.ref qz, .ref qb] : List Value).toArray below meth c s.heap [] 0 0 (MQ below (vp_Si (fun r => r = (x_X7_violation zc zf bln ban bsl))) ([.ref qz, .ref qb] : List Value).toArray s 0 0 aF) (F0 m 16 ls []) := by
    intro n16
    induction n16 with
    | zero =>
      intro v4_16 k5_16 hi ls hl hE
      exact absurd hi (by omega)
    | succ n16 ih16 =>
      intro v4_16 k5_16 hi ls hl hE
      have hE : (x_X7_violation zc zf bln ban bsl) = x_X7_violation_b16 zc zf bsl r_1 r_2 (spIter (fun _ _ => default) (x_X7_violation_b16 zc zf bsl r_1 r_2) n16) v4_16 k5_16 := hE
      refine lv_iload hx hb dX7_violation_16 (lv_at hl 5 rfl) ?_
      refine lv_aload_n hx hb dX7_violation_18 rfl (lv_at hl 0 rfl) ?_
      refine va_get (D := (dC, dI)) (ci := 7) (v := .int zc) (C := RX7) (T := TX7) (N := 2) hx hb hts i_X7 hown hK hP 0 rfl rfl 1 (by decide) w_0 (fun _ h9 => h9) rfl dX7_violation_19 ?_
      refine lv_iconst (v := 4) hx hb dX7_violation_22 (by decide) ?_
      refine lv_imul hx hb dX7_violation_23 ?_
      refine lv_icmp_ge (tgt := 116) hx hb dX7_violation_24 (by decide) (fun c_3 => ?_) (fun c_3 => ?_)
      ·
        have c_3 : (zc.toNatClampNeg * 4) ≤ k5_16 := by
          have h1 : ((nI k5_16)) = nI k5_16 := rfl
          have h2 : ((zc * (4 : Int32))) = nI (zc.toNatClampNeg * 4) := (nmul hzn (rfl : (4 : Int32) = nI 4))
          have h3 : (nI (zc.toNatClampNeg * 4) ≤ nI k5_16) := by first | exact c_3 | (rw [← h1, ← h2]; exact c_3)
          exact (nI_leI (by omega) (by omega)).mp h3
        have hE := hE.trans (if_pos c_3)
        refine lv_iload hx hb dX7_violation_116 (lv_at hl 4 rfl) ?_
        exact W.iret (v := v4_16) hx hb hr (fun t ht hW => ⟨_, rfl, hE.symm, ht⟩) (fun q h => by cases h) dX7_violation_118
      ·
        have c_3 : ¬ (zc.toNatClampNeg * 4) ≤ k5_16 := by
          have h1 : ((nI k5_16)) = nI k5_16 := rfl
          have h2 : ((zc * (4 : Int32))) = nI (zc.toNatClampNeg * 4) := (nmul hzn (rfl : (4 : Int32) = nI 4))
          have h3 : ¬ (nI (zc.toNatClampNeg * 4) ≤ nI k5_16) := by first | exact c_3 | (rw [← h1, ← h2]; exact c_3)
          exact fun h => h3 ((nI_leI (by omega) (by omega)).mpr h)
        have hE := hE.trans (if_neg c_3)
        refine lv_iload hx hb dX7_violation_27 (lv_at hl 5 rfl) ?_
        refine lv_iconst (v := 4) hx hb dX7_violation_29 (by decide) ?_
        refine lv_iadd hx hb dX7_violation_30 ?_
        refine lv_topi (fun y_4 ey_4 => ?_)
        obtain rfl : y_4 = nI (k5_16 + 4) := ey_4.trans (nadd (rfl : (nI k5_16) = nI k5_16) (rfl : (4 : Int32) = nI 4))
        refine lv_aload_n hx hb dX7_violation_31 rfl (lv_at hl 0 rfl) ?_
        refine va_get (D := (dC, dI)) (ci := 7) (v := .ref qzv) (C := RX7) (T := TX7) (N := 2) hx hb hts i_X7 hown hK hP 0 rfl rfl 0 (by decide) w_1 (fun _ h9 => h9) rfl dX7_violation_32 ?_
        refine va_alen (v := 24) hx hb hK hP 1 0 rfl rfl rfl dX7_violation_35 ?_
        refine lv_icmp_gt (tgt := 116) hx hb dX7_violation_36 (by decide) (fun c_5 => ?_) (fun c_5 => ?_)
        ·
          have c_5 : 24 < (k5_16 + 4) := by
            have h1 : ((nI (k5_16 + 4))) = nI (k5_16 + 4) := rfl
            have h2 : ((24 : Int32)) = nI 24 := rfl
            have h3 : (nI 24 < nI (k5_16 + 4)) := by first | exact c_5 | (rw [← h1, ← h2]; exact c_5)
            exact (nI_ltI (by omega) (by omega)).mp h3
          have hE := hE.trans (if_pos c_5)
          refine lv_iload hx hb dX7_violation_116 (lv_at hl 4 rfl) ?_
          exact W.iret (v := v4_16) hx hb hr (fun t ht hW => ⟨_, rfl, hE.symm, ht⟩) (fun q h => by cases h) dX7_violation_118
        ·
          have c_5 : ¬ 24 < (k5_16 + 4) := by
            have h1 : ((nI (k5_16 + 4))) = nI (k5_16 + 4) := rfl
            have h2 : ((24 : Int32)) = nI 24 := rfl
            have h3 : ¬ (nI 24 < nI (k5_16 + 4)) := by first | exact c_5 | (rw [← h1, ← h2]; exact c_5)
            exact fun h => h3 ((nI_ltI (by omega) (by omega)).mpr h)
          have hE := hE.trans (if_neg c_5)
          refine lv_aload_n hx hb dX7_violation_39 rfl (lv_at hl 0 rfl) ?_
          refine va_get (D := (dC, dI)) (ci := 7) (v := .ref qzv) (C := RX7) (T := TX7) (N := 2) hx hb hts i_X7 hown hK hP 0 rfl rfl 0 (by decide) w_1 (fun _ h9 => h9) rfl dX7_violation_40 ?_
          refine lv_iload hx hb dX7_violation_43 (lv_at hl 5 rfl) ?_
          refine ra_ld hx hb hK hP 1 0 rfl rfl (j := k5_16) (rfl : (nI k5_16) = nI k5_16) (by omega) (by omega) dX7_violation_45 ?_
          refine lv_topi (fun x_6 ex_6 => ?_)
          have hE := hE.trans (spLet_eq ex_6)
          refine lv_istore (lv' := [(6, .int x_6), (0, .ref qz), (1, .ref qb), (2, .int r_1), (3, .int r_2), (4, .int v4_16), (5, .int (nI k5_16))]) hx hb dX7_violation_46 hl (by decide) rfl (fun ls hl => ?_)
          refine lv_iload hx hb dX7_violation_48 (lv_at hl 0 rfl) ?_
          refine lv_aload_n hx hb dX7_violation_50 rfl (lv_at hl 2 rfl) ?_
          refine va_get (D := (dC, dI)) (ci := 0) (v := .int bsl) (C := RX0) (T := TX0) (N := 7) hx hb hts i_X0 hown hK hP 2 rfl rfl 2 (by decide) w_2 (fun _ h9 => h9) rfl dX7_violation_51 ?_
          refine vp_callSi (cr_of (va_runSN (As := [.int x_6, .int bsl]) (rest := []) ⟨hx, hb, hml, hown, hts⟩ (c_X8_clockwise l dC dI cyI x_6 bsl) ⟨(va_cnB 2 hts (wB_in b_368) rfl rfl rfl he.n1 (hts _ (List.mem_cons_of_mem _ b_2)) (by decide +kernel) ⟨Nat.le_of_ble_eq_true rfl, Nat.le_of_ble_eq_true rfl⟩), hts _ (List.mem_cons_of_mem _ b_367), trivial⟩ (pre_s eX_ok he hS (hP.sub (ws' := []) [] rfl) (hK.sub (tys' := []) [] rfl)) rfl rfl hl.1 rfl (lv_room (Nat.le_of_ble_eq_true rfl)) dX7_violation_54 ⟨Nat.zero_le _, Nat.zero_le _⟩)) (fun r_7 hr_7 => ?_)
          have hE := hE.trans (spLet_eq hr_7)
          refine lv_iload hx hb dX7_violation_57 (lv_at hl 0 rfl) ?_
          refine lv_aload_n hx hb dX7_violation_59 rfl (lv_at hl 1 rfl) ?_
          refine va_get (D := (dC, dI)) (ci := 7) (v := .ref qzv) (C := RX7) (T := TX7) (N := 2) hx hb hts i_X7 hown hK hP 0 rfl rfl 0 (by decide) w_1 (fun _ h9 => h9) rfl dX7_violation_60 ?_
          refine lv_iload hx hb dX7_violation_63 (lv_at hl 6 rfl) ?_
          refine lv_iconst (v := 1) hx hb dX7_violation_65 (by decide) ?_
          refine lv_iadd hx hb dX7_violation_66 ?_
          refine ra_ld hx hb hK hP 1 0 rfl rfl (j := (k5_16 + 1)) (nadd (rfl : (nI k5_16) = nI k5_16) (rfl : (1 : Int32) = nI 1)) (by omega) (by omega) dX7_violation_67 ?_
          refine vp_callSi (cr_of (va_runSN (As := [.int x_6, .int (zf (k5_16 + 1))]) (rest := [.int r_7]) ⟨hx, hb, hml, hown, hts⟩ (c_X8_clockwise l dC dI cyI x_6 (zf (k5_16 + 1))) ⟨(va_cnB 2 hts (wB_in b_368) rfl rfl rfl he.n1 (hts _ (List.mem_cons_of_mem _ b_2)) (by decide +kernel) ⟨Nat.le_of_ble_eq_true rfl, Nat.le_of_ble_eq_true rfl⟩), hts _ (List.mem_cons_of_mem _ b_367), trivial⟩ (pre_s eX_ok he hS (hP.sub (ws' := []) [] rfl) (hK.sub (tys' := []) [] rfl)) rfl rfl hl.1 rfl (lv_room (Nat.le_of_ble_eq_true rfl)) dX7_violation_68 ⟨Nat.zero_le _, Nat.zero_le _⟩)) (fun r_8 hr_8 => ?_)
          have hE := hE.trans (spLet_eq hr_8)
          have J110 : ∀ (v4_110 : Int32) (ls : Array Slot) (hl : lv_has ls 7 [(0, .ref qz), (1, .ref qb), (2, .int r_1), (3, .int r_2), (4, .int v4_110), (5, .int (nI k5_16))]) (hE : (x_X7_violation zc zf bln ban bsl) = x_X7_violation_j110 k5_16 (spIter (fun _ _ => default) (x_X7_violation_b16 zc zf bsl r_1 r_2) n16) v4_110), W p l e (headSpec wqX7_violation ({ frames := 2, cells := 0, slots := 0, locals := 42 } : Room)).room s m ([.ref qz, .ref qb] : List Value).toArray below meth c s.heap [] 0 0 (MQ below (vp_Si (fun r => r = (x_X7_violation zc zf bln ban bsl))) ([.ref qz, .ref qb] : List Value).toArray s 0 0 aF) (F0 m 110 ls []) := by
            intro v4_110 ls hl hE
            refine lv_iinc (v := (nI (k5_16 + 4))) (lv' := [(5, .int (nI (k5_16 + 4))), (0, .ref qz), (1, .ref qb), (2, .int r_1), (3, .int r_2), (4, .int v4_110)]) hx hb dX7_violation_110 hl (k := 5) rfl (show _ from (congrArg (fun z => z + Int32.ofInt 4) (rfl)).trans (ninc _ 4)) (by decide) rfl (fun ls hl => ?_)
            refine lv_goto (tgt := 16) hx hb dX7_violation_113 (by decide) ?_
            exact ih16 v4_110 (k5_16 + 4) (by omega) ls (lv_sub hl [1, 2, 3, 4, 5, 0] rfl) hE
          refine lv_icmp_gt (tgt := 110) hx hb dX7_violation_71 (by decide) (fun c_9 => ?_) (fun c_9 => ?_)
          ·
            have hE := hE.trans (if_pos c_9)
            exact J110 v4_16 ls (lv_sub hl [1, 2, 3, 4, 5, 6] rfl) hE
          ·
            have hE := hE.trans (if_neg c_9)
            refine lv_iload hx hb dX7_violation_74 (lv_at hl 5 rfl) ?_
            refine lv_iload_n hx hb dX7_violation_76 rfl (lv_at hl 3 rfl) ?_
            refine lv_aload_n hx hb dX7_violation_77 rfl (lv_at hl 1 rfl) ?_
            refine va_get (D := (dC, dI)) (ci := 7) (v := .ref qzv) (C := RX7) (T := TX7) (N := 2) hx hb hts i_X7 hown hK hP 0 rfl rfl 0 (by decide) w_1 (fun _ h9 => h9) rfl dX7_violation_78 ?_
            refine lv_iload hx hb dX7_violation_81 (lv_at hl 6 rfl) ?_
            refine lv_iconst (v := 2) hx hb dX7_violation_83 (by decide) ?_
            refine lv_iadd hx hb dX7_violation_84 ?_
            refine ra_ld hx hb hK hP 1 0 rfl rfl (j := (k5_16 + 2)) (nadd (rfl : (nI k5_16) = nI k5_16) (rfl : (2 : Int32) = nI 2)) (by omega) (by omega) dX7_violation_85 ?_
            refine lv_isub hx hb dX7_violation_86 ?_
            refine lv_iconst (v := 0) hx hb dX7_violation_87 (by decide) ?_
            refine va_mmax hx hb (hml.trans hl.1.symm) hown w_3 w_4 w_5 w_6 (Nat.le_of_ble_eq_true rfl) (Nat.le_of_ble_eq_true rfl) (Nat.le_of_ble_eq_true rfl) (Nat.le_of_ble_eq_true rfl) dX7_violation_88 ?_
            refine lv_iload_n hx hb dX7_violation_91 rfl (lv_at hl 4 rfl) ?_
            refine lv_aload_n hx hb dX7_violation_92 rfl (lv_at hl 1 rfl) ?_
            refine va_get (D := (dC, dI)) (ci := 7) (v := .ref qzv) (C := RX7) (T := TX7) (N := 2) hx hb hts i_X7 hown hK hP 0 rfl rfl 0 (by decide) w_1 (fun _ h9 => h9) rfl dX7_violation_93 ?_
            refine lv_iload hx hb dX7_violation_96 (lv_at hl 6 rfl) ?_
            refine lv_iconst (v := 3) hx hb dX7_violation_98 (by decide) ?_
            refine lv_iadd hx hb dX7_violation_99 ?_
            refine ra_ld hx hb hK hP 1 0 rfl rfl (j := (k5_16 + 3)) (nadd (rfl : (nI k5_16) = nI k5_16) (rfl : (3 : Int32) = nI 3)) (by omega) (by omega) dX7_violation_100 ?_
            refine lv_isub hx hb dX7_violation_101 ?_
            refine lv_iconst (v := 0) hx hb dX7_violation_102 (by decide) ?_
            refine va_mmax hx hb (hml.trans hl.1.symm) hown w_3 w_4 w_5 w_6 (Nat.le_of_ble_eq_true rfl) (Nat.le_of_ble_eq_true rfl) (Nat.le_of_ble_eq_true rfl) (Nat.le_of_ble_eq_true rfl) dX7_violation_103 ?_
            refine lv_iadd hx hb dX7_violation_106 ?_
            refine lv_iadd hx hb dX7_violation_107 ?_
            refine lv_topi (fun x_10 ex_10 => ?_)
            have hE := hE.trans (spLet_eq ex_10)
            refine lv_istore (lv' := [(4, .int x_10), (6, .int x_6), (0, .ref qz), (1, .ref qb), (2, .int r_1), (3, .int r_2), (5, .int (nI k5_16))]) hx hb dX7_violation_108 hl (by decide) rfl (fun ls hl => ?_)
            exact J110 x_10 ls (lv_sub hl [2, 3, 4, 5, 0, 6] rfl) hE
  exact L16 7 (0 : Int32) 0 (by omega) ls (lv_sub hl [4, 5, 3, 2, 1, 0] rfl) hE

