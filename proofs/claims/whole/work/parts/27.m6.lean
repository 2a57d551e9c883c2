def m_tick_j124 (x_1 : Int32) (x_8 : Int32) (x_12 : Int32) (r_13 : Int32) (w0_6_124 : Int32) (w0_7_124 : Int32) (w1_a_124 : Nat → Int32) (w4_a_124 : Nat → Int32) : Int32 × Int32 × Int32 × (Nat → Int32) × (Nat → Int32) :=
  spLet (((w1_a_124 (234 + (r_13).toNatClampNeg)) + (1 : Int32))) (fun x_19 => spLet (upd w1_a_124 (234 + (r_13).toNatClampNeg) x_19) (fun f_20 => spLet (m_follow f_20 x_1 x_12) (fun u_21 => if x_8 = 0 then (((1 : Int32), w0_6_124, w0_7_124, u_21, w4_a_124)) else (((0 : Int32), w0_6_124, w0_7_124, u_21, w4_a_124)))))
def m_tick_j106 (x_1 : Int32) (x_8 : Int32) (x_12 : Int32) (r_13 : Int32) (t0_83 : Int32) (w0_6_106 : Int32) (w0_7_106 : Int32) (w1_a_106 : Nat → Int32) (w4_a_106 : Nat → Int32) : Int32 × Int32 × Int32 × (Nat → Int32) × (Nat → Int32) :=
  if t0_83 = 0 then (m_tick_j124 x_1 x_8 x_12 r_13 w0_6_106 w0_7_106 w1_a_106 w4_a_106) else (if (r_13).toNatClampNeg = 2 then (spLet (m_log w1_a_106 (2 : Int32) x_12) (fun u_24 => m_tick_j124 x_1 x_8 x_12 r_13 w0_6_106 w0_7_106 u_24 w4_a_106)) else (m_tick_j124 x_1 x_8 x_12 r_13 w0_6_106 w0_7_106 w1_a_106 w4_a_106))
def m_tick_j83 (x_1 : Int32) (u_6 : Int32 × Int32 × Int32 × (Nat → Int32) × (Nat → Int32)) (x_8 : Int32) (f_9 : Nat → Int32) (u_10 : Int32 × Int32 × Int32) (x_12 : Int32) (r_13 : Int32) (t0_83 : Int32) : Int32 × Int32 × Int32 × (Nat → Int32) × (Nat → Int32) :=
  spLet (upd f_9 7 r_13) (fun f_15 => if t0_83 = 0 then (m_tick_j106 x_1 x_8 x_12 r_13 t0_83 (u_10.2.1) (u_10.2.2) f_15 (u_6.2.2.2.2)) else (spLet (m_log f_15 (1 : Int32) r_13) (fun u_25 => m_tick_j106 x_1 x_8 x_12 r_13 t0_83 (u_10.2.1) (u_10.2.2) u_25 (u_6.2.2.2.2))))
def m_tick (mm : Int32) (mr : Int32) (zs : Nat → Int32) (zp : Nat → Int32) (mos : Int32) : Int32 × Int32 × Int32 × (Nat → Int32) × (Nat → Int32) :=
  spLet ((zs 4)) (fun x_1 => spLet (((zs 8) + (1 : Int32))) (fun x_2 => spLet (upd zs 8 x_2) (fun f_3 => spLet (m_greater (0 : Int32) ((f_3 9) - (1 : Int32))) (fun r_4 => spLet (upd f_3 9 r_4) (fun f_5 => spLet (m_move mm mr f_5 zp mos) (fun u_6 => spLet ((u_6.1)) (fun x_8 => spLet (upd (u_6.2.2.2.1) 11 x_8) (fun f_9 => spLet (m_utilization (u_6.2.2.1) f_9) (fun u_10 => spLet ((u_10.1)) (fun x_12 => spLet (m_nextState f_9 x_12) (fun r_13 => if r_13 = (f_9 7) then (m_tick_j83 x_1 u_6 x_8 f_9 u_10 x_12 r_13 (0 : Int32)) else (m_tick_j83 x_1 u_6 x_8 f_9 u_10 x_12 r_13 (1 : Int32)))))))))))))
set_option maxHeartbeats 1000000 in
set_option maxRecDepth 100000 in
theorem c_X9_tick (l : Launch) (dC : Nat → ClassId) (dI : Nat → Nat → Nat) (cyI : ClassId) (sz : Nat) (q0 : Nat) (q1 : Nat) (q2 : Nat) (q3 : Nat) (q4 : Nat) (q5 : Nat) (q6 : Nat) (svc : Int32) (tl : Int32) (cde : Int32) (mm : Int32) (mr : Int32) (ati : Int32) (ors : Int32) (zs : Nat → Int32) (zv : Nat → Int32) (zt : Nat → Int32) (zp : Nat → Int32) (zm : Nat → Int32) (zk : Nat → Int32) (mos : Int32) (hG : mG zs) : Met l yX9_tick wqX9_tick ({ frames := 11, cells := 0, slots := 0, locals := 237 } : Room) (va_Pc [.ref q0, .int mos] (pC (dC, dI) [(q0, .inr (9, [.ref q1, .ref q2, .int svc, .ref q3, .int tl, .int cde, .int mm, .int mr, .ref q4, .int ati, .int ors, .ref q5, .ref q6])), (q1, .inl (cyI, 246, .inl zs)), (q2, .inl (cyI, 984, .inl zv)), (q3, .inl (cyI, 80, .inl zt)), (q4, .inl (cyI, 5, .inl zp)), (q5, .inl (cyI, 40, .inl zm)), (q6, .inl (cyI, 40, .inl zk))] [(cyI, .int)] eM sz)) (va_Qi (fun (r : Int32) (u : Int32 × Int32 × Int32 × (Nat → Int32) × (Nat → Int32)) => u = (m_tick mm mr zs zp mos) ∧ r = u.1 ∧ (r = 0 ∨ r = 1)) (fun (u : Int32 × Int32 × Int32 × (Nat → Int32) × (Nat → Int32)) t => va_P (dC, dI) vwCl [(q0, .inr (9, [.ref q1, .ref q2, .int svc, .ref q3, .int tl, .int cde, .int (u.2.1), .int (u.2.2.1), .ref q4, .int ati, .int ors, .ref q5, .ref q6])), (q1, .inl (cyI, 246, .inl (u.2.2.2.1))), (q2, .inl (cyI, 984, .inl zv)), (q3, .inl (cyI, 80, .inl zt)), (q4, .inl (cyI, 5, .inl (u.2.2.2.2))), (q5, .inl (cyI, 40, .inl zm)), (q6, .inl (cyI, 40, .inl zk))] t.heap ∧ va_D (va_A [(q0, .inr (9, [.ref q1, .ref q2, .int svc, .ref q3, .int tl, .int cde, .int mm, .int mr, .ref q4, .int ati, .int ors, .ref q5, .ref q6])), (q1, .inl (cyI, 246, .inl zs)), (q2, .inl (cyI, 984, .inl zv)), (q3, .inl (cyI, 80, .inl zt)), (q4, .inl (cyI, 5, .inl zp)), (q5, .inl (cyI, 40, .inl zm)), (q6, .inl (cyI, 40, .inl zk))] sz) [(q0, .inr (9, [.ref q1, .ref q2, .int svc, .ref q3, .int tl, .int cde, .int (u.2.1), .int (u.2.2.1), .ref q4, .int ati, .int ors, .ref q5, .ref q6])), (q1, .inl (cyI, 246, .inl (u.2.2.2.1))), (q2, .inl (cyI, 984, .inl zv)), (q3, .inl (cyI, 80, .inl zt)), (q4, .inl (cyI, 5, .inl (u.2.2.2.2))), (q5, .inl (cyI, 40, .inl zm)), (q6, .inl (cyI, 40, .inl zk))]) (va_A [(q0, .inr (9, [.ref q1, .ref q2, .int svc, .ref q3, .int tl, .int cde, .int mm, .int mr, .ref q4, .int ati, .int ors, .ref q5, .ref q6])), (q1, .inl (cyI, 246, .inl zs)), (q2, .inl (cyI, 984, .inl zv)), (q3, .inl (cyI, 80, .inl zt)), (q4, .inl (cyI, 5, .inl zp)), (q5, .inl (cyI, 40, .inl zm)), (q6, .inl (cyI, 40, .inl zk))] sz)) 0 0 (va_A [(q0, .inr (9, [.ref q1, .ref q2, .int svc, .ref q3, .int tl, .int cde, .int mm, .int mr, .ref q4, .int ati, .int ors, .ref q5, .ref q6])), (q1, .inl (cyI, 246, .inl zs)), (q2, .inl (cyI, 984, .inl zv)), (q3, .inl (cyI, 80, .inl zt)), (q4, .inl (cyI, 5, .inl zp)), (q5, .inl (cyI, 40, .inl zm)), (q6, .inl (cyI, 40, .inl zk))] sz) := by
  refine Met.ofW (cc := cX9_tick) (maxL := 7) (ret := (some .boolean)) (by decide) rfl ?_
  intro p e s m args below meth c s₁ B hml hv
  obtain ⟨rfl, hsz, hP, hK, hD0, he⟩ := hv
  have hx := B.exec
  have hb := B.bytes
  have hr := B.returns
  have hts := atoms_spec (ws := wqX9_tick) B.pre
  have hown : s.vm.findClass RX9 = some m.cls := findClass_of_methodNamed B.named
  have hlocks := B.notSynchronized
  have w_0 := hts (Cond.fieldLink RX9 7 "CraneLimiterModel" "s" "[I") (List.mem_cons_of_mem _ b_93)
  have i_X9 : ∀ w ∈ u_ws RX9 TX9 13, w ∈ wqX9_tick := fun w h => List.mem_cons_of_mem _ (bX9 w h)
  subst hsz
  have hD := hD0.self (sz := s.heap.size)
  generalize hAe : va_A [(q0, .inr (9, [.ref q1, .ref q2, .int svc, .ref q3, .int tl, .int cde, .int mm, .int mr, .ref q4, .int ati, .int ors, .ref q5, .ref q6])), (q1, .inl (cyI, 246, .inl zs)), (q2, .inl (cyI, 984, .inl zv)), (q3, .inl (cyI, 80, .inl zt)), (q4, .inl (cyI, 5, .inl zp)), (q5, .inl (cyI, 40, .inl zm)), (q6, .inl (cyI, 40, .inl zk))] s.heap.size = A at hD he ⊢
  have hA : ∀ q : Nat, s.heap.size ≤ q → A q := fun q h => by rw [← hAe]; exact Or.inr h
  have hS : va_S A s.heap s.heap [] := va_S.rf
  have hP : va_P (dC, dI) vwCl [(q0, .inr (9, [.ref q1, .ref q2, .int svc, .ref q3, .int tl, .int cde, .int mm, .int mr, .ref q4, .int ati, .int ors, .ref q5, .ref q6])), (q1, .inl (cyI, 246, .inl zs)), (q2, .inl (cyI, 984, .inl zv)), (q3, .inl (cyI, 80, .inl zt)), (q4, .inl (cyI, 5, .inl zp)), (q5, .inl (cyI, 40, .inl zm)), (q6, .inl (cyI, 40, .inl zk))] s.heap := hP
  have hl := lv_entry ([.ref q0, .int mos] : List Value) (n := 7) (Nat.le_of_ble_eq_true rfl)
  rw [lg_entry_eq]
  generalize (lg_sl ([.ref q0, .int mos] : List Value) ++ List.replicate (7 - (lg_sl ([.ref q0, .int mos] : List Value)).length) Slot.unset).toArray = ls at hl ⊢
  have hl : lv_has ls 7 [(0, .ref q0), (1, .int mos)] := hl
  have hE : m_tick mm mr zs zp mos = m_tick mm mr zs zp mos := rfl
  refine lv_aload_n hx hb dX9_tick_0 rfl (lv_at hl 0 rfl) ?_
  refine va_get (D := (dC, dI)) (ci := 9) (v := .ref q1) (C := RX9) (T := TX9) (N := 13) hx hb hts i_X9 hown hK hP 0 rfl rfl 0 (by decide) w_0 (fun _ h9 => h9) rfl dX9_tick_1 ?_
  refine lv_iconst (v := 4) hx hb dX9_tick_4 (by decide) ?_
  refine ra_ld hx hb hK hP 1 0 rfl rfl (j := 4) (rfl : (4 : Int32) = nI 4) (by omega) (by omega) dX9_tick_5 ?_
  refine lv_topi (fun x_1 ex_1 => ?_)
  have hE := hE.trans (spLet_eq ex_1)
  refine lv_istore_n (lv' := [(2, .int x_1), (0, .ref q0), (1, .int mos)]) hx hb dX9_tick_6 rfl hl (by decide) rfl (fun ls hl => ?_)
  refine lv_aload_n hx hb dX9_tick_7 rfl (lv_at hl 1 rfl) ?_
  refine va_get (D := (dC, dI)) (ci := 9) (v := .ref q1) (C := RX9) (T := TX9) (N := 13) hx hb hts i_X9 hown hK hP 0 rfl rfl 0 (by decide) w_0 (fun _ h9 => h9) rfl dX9_tick_8 ?_
  refine lv_bipush (v := 8) hx hb dX9_tick_11 (by decide) ?_
  refine lv_dup2_11 hx hb dX9_tick_13 rfl rfl ?_
  refine ra_ld hx hb hK hP 1 0 rfl rfl (j := 8) (rfl : (8 : Int32) = nI 8) (by omega) (by omega) dX9_tick_14 ?_
  refine lv_iconst (v := 1) hx hb dX9_tick_15 (by decide) ?_
  refine lv_iadd hx hb dX9_tick_16 ?_
  refine lv_topi (fun x_2 ex_2 => ?_)
  have hE := hE.trans (spLet_eq ex_2)
  refine ra_st hx hb hK hP hD hS 1 0 rfl rfl (j := 8) (rfl : (8 : Int32) = nI 8) (by omega) (by omega) dX9_tick_17 (fun H locs hP hD hS => ?_)
  have hP : va_P (dC, dI) vwCl [(q0, .inr (9, [.ref q1, .ref q2, .int svc, .ref q3, .int tl, .int cde, .int mm, .int mr, .ref q4, .int ati, .int ors, .ref q5, .ref q6])), (q1, .inl (cyI, 246, .inl (upd zs 8 x_2))), (q2, .inl (cyI, 984, .inl zv)), (q3, .inl (cyI, 80, .inl zt)), (q4, .inl (cyI, 5, .inl zp)), (q5, .inl (cyI, 40, .inl zm)), (q6, .inl (cyI, 40, .inl zk))] H := hP
  have hD : va_D A [(q0, .inr (9, [.ref q1, .ref q2, .int svc, .ref q3, .int tl, .int cde, .int mm, .int mr, .ref q4, .int ati, .int ors, .ref q5, .ref q6])), (q1, .inl (cyI, 246, .inl (upd zs 8 x_2))), (q2, .inl (cyI, 984, .inl zv)), (q3, .inl (cyI, 80, .inl zt)), (q4, .inl (cyI, 5, .inl zp)), (q5, .inl (cyI, 40, .inl zm)), (q6, .inl (cyI, 40, .inl zk))] := hD
  obtain ⟨f_3, ef_3⟩ : ∃ y : Nat → Int32, y = upd zs 8 x_2 := ⟨_, rfl⟩
  rw [← ef_3] at hP hD
  have hE := hE.trans (spLet_eq ef_3)
  have ha : mG f_3 := by rw [ef_3]; exact hG.upd fun _ => mfree8 _
  refine lv_aload_n hx hb dX9_tick_18 rfl (lv_at hl 1 rfl) ?_
  refine va_get (D := (dC, dI)) (ci := 9) (v := .ref q1) (C := RX9) (T := TX9) (N := 13) hx hb hts i_X9 hown hK hP 0 rfl rfl 0 (by decide) w_0 (fun _ h9 => h9) rfl dX9_tick_19 ?_
  refine lv_bipush (v := 9) hx hb dX9_tick_22 (by decide) ?_
  refine lv_iconst (v := 0) hx hb dX9_tick_24 (by decide) ?_
  refine lv_aload_n hx hb dX9_tick_25 rfl (lv_at hl 1 rfl) ?_
  refine va_get (D := (dC, dI)) (ci := 9) (v := .ref q1) (C := RX9) (T := TX9) (N := 13) hx hb hts i_X9 hown hK hP 0 rfl rfl 0 (by decide) w_0 (fun _ h9 => h9) rfl dX9_tick_26 ?_
  refine lv_bipush (v := 9) hx hb dX9_tick_29 (by decide) ?_
  refine ra_ld hx hb hK hP 1 0 rfl rfl (j := 9) (rfl : (9 : Int32) = nI 9) (by omega) (by omega) dX9_tick_31 ?_
  refine lv_iconst (v := 1) hx hb dX9_tick_32 (by decide) ?_
  refine lv_isub hx hb dX9_tick_33 ?_
  refine vp_callSi (W.runS (As := [.int (0 : Int32), .int ((f_3 9) - (1 : Int32))]) (rest := [.int (9 : Int32), .ref q1]) ⟨hx, hb, hml, hown, hts⟩ (c_X9_greater l dC dI cyI (0 : Int32) ((f_3 9) - (1 : Int32))) (va_cwS 2 hts (gBS b_393 b_394 b_5 b_395) rfl rfl rfl (by decide +kernel) ⟨Nat.le_of_ble_eq_true rfl, Nat.le_of_ble_eq_true rfl⟩) (pre_s eM_ok he hS (hP.sub (ws' := []) [] rfl) (hK.sub (tys' := []) [] rfl)) rfl rfl hl.1 rfl (lv_room (Nat.le_of_ble_eq_true rfl)) dX9_tick_34 ⟨Nat.zero_le _, Nat.zero_le _⟩) (fun r_4 hr_4 => ?_)
  have hE := hE.trans (spLet_eq hr_4)
  refine ra_st hx hb hK hP hD hS 1 0 rfl rfl (j := 9) (rfl : (9 : Int32) = nI 9) (by omega) (by omega) dX9_tick_37 (fun H locs hP hD hS => ?_)
  have hP : va_P (dC, dI) vwCl [(q0, .inr (9, [.ref q1, .ref q2, .int svc, .ref q3, .int tl, .int cde, .int mm, .int mr, .ref q4, .int ati, .int ors, .ref q5, .ref q6])), (q1, .inl (cyI, 246, .inl (upd f_3 9 r_4))), (q2, .inl (cyI, 984, .inl zv)), (q3, .inl (cyI, 80, .inl zt)), (q4, .inl (cyI, 5, .inl zp)), (q5, .inl (cyI, 40, .inl zm)), (q6, .inl (cyI, 40, .inl zk))] H := hP
  have hD : va_D A [(q0, .inr (9, [.ref q1, .ref q2, .int svc, .ref q3, .int tl, .int cde, .int mm, .int mr, .ref q4, .int ati, .int ors, .ref q5, .ref q6])), (q1, .inl (cyI, 246, .inl (upd f_3 9 r_4))), (q2, .inl (cyI, 984, .inl zv)), (q3, .inl (cyI, 80, .inl zt)), (q4, .inl (cyI, 5, .inl zp)), (q5, .inl (cyI, 40, .inl zm)), (q6, .inl (cyI, 40, .inl zk))] := hD
  obtain ⟨f_5, ef_5⟩ : ∃ y : Nat → Int32, y = upd f_3 9 r_4 := ⟨_, rfl⟩
  rw [← ef_5] at hP hD
  have hE := hE.trans (spLet_eq ef_5)
  have hbb : mG f_5 := by rw [ef_5, hr_4]; exact ha.upd fun _ => tick9 ha
  refine lv_aload_n hx hb dX9_tick_38 rfl (lv_at hl 1 rfl) ?_
  refine lv_iload_n hx hb dX9_tick_39 rfl (lv_at hl 2 rfl) ?_
  refine mj_i (wr := []) (va_runV (As := [.int mos]) (rest := []) ⟨hx, hb, hml, hown, hts⟩ (c_X9_move l dC dI cyI H.size q0 q1 q2 q3 q4 q5 q6 svc tl cde mm mr ati ors f_5 zv zt zp zm zk mos hbb) (cwV 1 hts (gBV b_637 b_638 b_639 b_5 b_640) rfl rfl rfl (by decide +kernel) ⟨Nat.le_of_ble_eq_true rfl, Nat.le_of_ble_eq_true rfl⟩) (prm_v eM_ok he hS hP hD hK (va_free (wc := [(q0, .inr (9, [.ref q1, .ref q2, .int svc, .ref q3, .int tl, .int cde, .int mm, .int mr, .ref q4, .int ati, .int ors, .ref q5, .ref q6])), (q1, .inl (cyI, 246, .inl f_5)), (q2, .inl (cyI, 984, .inl zv)), (q3, .inl (cyI, 80, .inl zt)), (q4, .inl (cyI, 5, .inl zp)), (q5, .inl (cyI, 40, .inl zm)), (q6, .inl (cyI, 40, .inl zk))]) hD hS hA [0, 1, 2, 3, 4, 5, 6] rfl) 0 rfl rfl rfl) rfl rfl hl.1 rfl (lv_room (Nat.le_of_ble_eq_true rfl)) dX9_tick_40 ⟨Nat.le_of_ble_eq_true rfl, Nat.le_of_ble_eq_true rfl⟩) hP hD hS hA [0, 1, 2, 3, 4, 5, 6] [] rfl rfl (by decide) (by decide) (fun r_7 u_6 H locs hw hP hD hS => ?_)
  obtain ⟨hu_6, rfl⟩ := hw
  have hE := hE.trans (spLet_eq hu_6)
  have hP : va_P (dC, dI) vwCl [(q0, .inr (9, [.ref q1, .ref q2, .int svc, .ref q3, .int tl, .int cde, .int (u_6.2.1), .int (u_6.2.2.1), .ref q4, .int ati, .int ors, .ref q5, .ref q6])), (q1, .inl (cyI, 246, .inl (u_6.2.2.2.1))), (q2, .inl (cyI, 984, .inl zv)), (q3, .inl (cyI, 80, .inl zt)), (q4, .inl (cyI, 5, .inl (u_6.2.2.2.2))), (q5, .inl (cyI, 40, .inl zm)), (q6, .inl (cyI, 40, .inl zk))] H := hP
  have hD : va_D A [(q0, .inr (9, [.ref q1, .ref q2, .int svc, .ref q3, .int tl, .int cde, .int (u_6.2.1), .int (u_6.2.2.1), .ref q4, .int ati, .int ors, .ref q5, .ref q6])), (q1, .inl (cyI, 246, .inl (u_6.2.2.2.1))), (q2, .inl (cyI, 984, .inl zv)), (q3, .inl (cyI, 80, .inl zt)), (q4, .inl (cyI, 5, .inl (u_6.2.2.2.2))), (q5, .inl (cyI, 40, .inl zm)), (q6, .inl (cyI, 40, .inl zk))] := hD
  have hm : mG u_6.2.2.2.1 := by rw [hu_6]; exact move_G hbb _ _ _ _
  refine lv_topi (fun x_8 ex_8 => ?_)
  have hE := hE.trans (spLet_eq ex_8)
  refine lv_istore_n (lv' := [(3, .int x_8), (2, .int x_1), (0, .ref q0), (1, .int mos)]) hx hb dX9_tick_43 rfl hl (by decide) rfl (fun ls hl => ?_)
  refine lv_aload_n hx hb dX9_tick_44 rfl (lv_at hl 2 rfl) ?_
  refine va_get (D := (dC, dI)) (ci := 9) (v := .ref q1) (C := RX9) (T := TX9) (N := 13) hx hb hts i_X9 hown hK hP 0 rfl rfl 0 (by decide) w_0 (fun _ h9 => h9) rfl dX9_tick_45 ?_
  refine lv_bipush (v := 11) hx hb dX9_tick_48 (by decide) ?_
  refine lv_iload_n hx hb dX9_tick_50 rfl (lv_at hl 0 rfl) ?_
  refine ra_st hx hb hK hP hD hS 1 0 rfl rfl (j := 11) (rfl : (11 : Int32) = nI 11) (by omega) (by omega) dX9_tick_51 (fun H locs hP hD hS => ?_)
  have hP : va_P (dC, dI) vwCl [(q0, .inr (9, [.ref q1, .ref q2, .int svc, .ref q3, .int tl, .int cde, .int (u_6.2.1), .int (u_6.2.2.1), .ref q4, .int ati, .int ors, .ref q5, .ref q6])), (q1, .inl (cyI, 246, .inl (upd (u_6.2.2.2.1) 11 x_8))), (q2, .inl (cyI, 984, .inl zv)), (q3, .inl (cyI, 80, .inl zt)), (q4, .inl (cyI, 5, .inl (u_6.2.2.2.2))), (q5, .inl (cyI, 40, .inl zm)), (q6, .inl (cyI, 40, .inl zk))] H := hP
  have hD : va_D A [(q0, .inr (9, [.ref q1, .ref q2, .int svc, .ref q3, .int tl, .int cde, .int (u_6.2.1), .int (u_6.2.2.1), .ref q4, .int ati, .int ors, .ref q5, .ref q6])), (q1, .inl (cyI, 246, .inl (upd (u_6.2.2.2.1) 11 x_8))), (q2, .inl (cyI, 984, .inl zv)), (q3, .inl (cyI, 80, .inl zt)), (q4, .inl (cyI, 5, .inl (u_6.2.2.2.2))), (q5, .inl (cyI, 40, .inl zm)), (q6, .inl (cyI, 40, .inl zk))] := hD
  obtain ⟨f_9, ef_9⟩ : ∃ y : Nat → Int32, y = upd (u_6.2.2.2.1) 11 x_8 := ⟨_, rfl⟩
  rw [← ef_9] at hP hD
  have hE := hE.trans (spLet_eq ef_9)
  have hc : mG f_9 := by rw [ef_9]; exact hm.upd fun _ => mfree11 _
  refine lv_aload_n hx hb dX9_tick_52 rfl (lv_at hl 2 rfl) ?_
  refine mj_i (wr := []) (va_runV (As := []) (rest := []) ⟨hx, hb, hml, hown, hts⟩ (c_X9_utilization l dC dI cyI H.size q0 q1 q2 q3 q4 q5 q6 svc tl cde (u_6.2.1) (u_6.2.2.1) ati ors f_9 zv zt (u_6.2.2.2.2) zm zk hc) (cwV 0 hts (gBV b_673 b_674 b_675 b_5 b_676) rfl rfl rfl (by decide +kernel) ⟨Nat.le_of_ble_eq_true rfl, Nat.le_of_ble_eq_true rfl⟩) (prm_v eM_ok he hS hP hD hK (va_free (wc := [(q0, .inr (9, [.ref q1, .ref q2, .int svc, .ref q3, .int tl, .int cde, .int (u_6.2.1), .int (u_6.2.2.1), .ref q4, .int ati, .int ors, .ref q5, .ref q6])), (q1, .inl (cyI, 246, .inl f_9)), (q2, .inl (cyI, 984, .inl zv)), (q3, .inl (cyI, 80, .inl zt)), (q4, .inl (cyI, 5, .inl (u_6.2.2.2.2))), (q5, .inl (cyI, 40, .inl zm)), (q6, .inl (cyI, 40, .inl zk))]) hD hS hA [0, 1, 2, 3, 4, 5, 6] rfl) 0 rfl rfl rfl) rfl rfl hl.1 rfl (lv_room (Nat.le_of_ble_eq_true rfl)) dX9_tick_53 ⟨Nat.le_of_ble_eq_true rfl, Nat.le_of_ble_eq_true rfl⟩) hP hD hS hA [0, 1, 2, 3, 4, 5, 6] [] rfl rfl (by decide) (by decide) (fun r_11 u_10 H locs hw hP hD hS => ?_)
  obtain ⟨hu_10, rfl⟩ := hw
  have hE := hE.trans (spLet_eq hu_10)
  have hP : va_P (dC, dI) vwCl [(q0, .inr (9, [.ref q1, .ref q2, .int svc, .ref q3, .int tl, .int cde, .int (u_10.2.1), .int (u_10.2.2), .ref q4, .int ati, .int ors, .ref q5, .ref q6])), (q1, .inl (cyI, 246, .inl f_9)), (q2, .inl (cyI, 984, .inl zv)), (q3, .inl (cyI, 80, .inl zt)), (q4, .inl (cyI, 5, .inl (u_6.2.2.2.2))), (q5, .inl (cyI, 40, .inl zm)), (q6, .inl (cyI, 40, .inl zk))] H := hP
  have hD : va_D A [(q0, .inr (9, [.ref q1, .ref q2, .int svc, .ref q3, .int tl, .int cde, .int (u_10.2.1), .int (u_10.2.2), .ref q4, .int ati, .int ors, .ref q5, .ref q6])), (q1, .inl (cyI, 246, .inl f_9)), (q2, .inl (cyI, 984, .inl zv)), (q3, .inl (cyI, 80, .inl zt)), (q4, .inl (cyI, 5, .inl (u_6.2.2.2.2))), (q5, .inl (cyI, 40, .inl zm)), (q6, .inl (cyI, 40, .inl zk))] := hD
  refine lv_topi (fun x_12 ex_12 => ?_)
  have hE := hE.trans (spLet_eq ex_12)
  refine lv_istore (lv' := [(4, .int x_12), (3, .int x_8), (2, .int x_1), (0, .ref q0), (1, .int mos)]) hx hb dX9_tick_56 hl (by decide) rfl (fun ls hl => ?_)
  refine lv_aload_n hx hb dX9_tick_58 rfl (lv_at hl 3 rfl) ?_
  refine lv_iload hx hb dX9_tick_59 (lv_at hl 0 rfl) ?_
  refine vp_callSi (W.runV (As := [.int x_12]) (rest := []) ⟨hx, hb, hml, hown, hts⟩ (c_X9_nextState l dC dI cyI q0 q1 q2 q3 q4 q5 q6 svc tl cde (u_10.2.1) (u_10.2.2) ati ors f_9 zv zt (u_6.2.2.2.2) zm zk x_12) (cwV 1 hts (gBV b_736 b_737 b_738 b_5 b_739) rfl rfl rfl (by decide +kernel) ⟨Nat.le_of_ble_eq_true rfl, Nat.le_of_ble_eq_true rfl⟩) (pre_v eM_ok he hS hP hK 0 rfl rfl rfl) rfl rfl hl.1 rfl (lv_room (Nat.le_of_ble_eq_true rfl)) dX9_tick_61 ⟨Nat.zero_le _, Nat.zero_le _⟩) (fun r_13 hr_13 => ?_)
  have hE := hE.trans (spLet_eq hr_13)
  have hn_r_13 : r_13 = nI (r_13).toNatClampNeg ∧ (r_13).toNatClampNeg < 4 := by rw [hr_13]; exact nextState_n _ _
  have hb_r_13 := hn_r_13.2
  refine lv_istore (lv' := [(5, .int r_13), (4, .int x_12), (3, .int x_8), (2, .int x_1), (0, .ref q0), (1, .int mos)]) hx hb dX9_tick_64 hl (by decide) rfl (fun ls hl => ?_)
  refine lv_iload hx hb dX9_tick_66 (lv_at hl 0 rfl) ?_
  refine lv_aload_n hx hb dX9_tick_68 rfl (lv_at hl 4 rfl) ?_
  refine va_get (D := (dC, dI)) (ci := 9) (v := .ref q1) (C := RX9) (T := TX9) (N := 13) hx hb hts i_X9 hown hK hP 0 rfl rfl 0 (by decide) w_0 (fun _ h9 => h9) rfl dX9_tick_69 ?_
  refine lv_bipush (v := 7) hx hb dX9_tick_72 (by decide) ?_
  refine ra_ld hx hb hK hP 1 0 rfl rfl (j := 7) (rfl : (7 : Int32) = nI 7) (by omega) (by omega) dX9_tick_74 ?_
  have J83 : ∀ (t0_83 : Int32) (ls : Array Slot) (hl : lv_has ls 7 [(0, .ref q0), (2, .int x_1), (3, .int x_8), (4, .int x_12), (5, .int r_13)]) (hE : (m_tick mm mr zs zp mos) = m_tick_j83 x_1 u_6 x_8 f_9 u_10 x_12 r_13 t0_83), W p l e (headSpec wqX9_tick ({ frames := 11, cells := 0, slots := 0, locals := 237 } : Room)).room s m ([.ref q0, .int mos] : List Value).toArray below meth c H locs 0 0 (MQ below (va_Qi (fun (r : Int32) (u : Int32 × Int32 × Int32 × (Nat → Int32) × (Nat → Int32)) => u = (m_tick mm mr zs zp mos) ∧ r = u.1 ∧ (r = 0 ∨ r = 1)) (fun (u : Int32 × Int32 × Int32 × (Nat → Int32) × (Nat → Int32)) t => va_P (dC, dI) vwCl [(q0, .inr (9, [.ref q1, .ref q2, .int svc, .ref q3, .int tl, .int cde, .int (u.2.1), .int (u.2.2.1), .ref q4, .int ati, .int ors, .ref q5, .ref q6])), (q1, .inl (cyI, 246, .inl (u.2.2.2.1))), (q2, .inl (cyI, 984, .inl zv)), (q3, .inl (cyI, 80, .inl zt)), (q4, .inl (cyI, 5, .inl (u.2.2.2.2))), (q5, .inl (cyI, 40, .inl zm)), (q6, .inl (cyI, 40, .inl zk))] t.heap ∧ va_D A [(q0, .inr (9, [.ref q1, .ref q2, .int svc, .ref q3, .int tl, .int cde, .int (u.2.1), .int (u.2.2.1), .ref q4, .int ati, .int ors, .ref q5, .ref q6])), (q1, .inl (cyI, 246, .inl (u.2.2.2.1))), (q2, .inl (cyI, 984, .inl zv)), (q3, .inl (cyI, 80, .inl zt)), (q4, .inl (cyI, 5, .inl (u.2.2.2.2))), (q5, .inl (cyI, 40, .inl zm)), (q6, .inl (cyI, 40, .inl zk))]) A) ([.ref q0, .int mos] : List Value).toArray s 0 0 A) (F0 m 83 ls [.int t0_83]) := by
    intro t0_83 ls hl hE
    refine lv_istore (lv' := [(6, .int t0_83), (0, .ref q0), (2, .int x_1), (3, .int x_8), (4, .int x_12), (5, .int r_13)]) hx hb dX9_tick_83 hl (by decide) rfl (fun ls hl => ?_)
    refine lv_aload_n hx hb dX9_tick_85 rfl (lv_at hl 1 rfl) ?_
    refine va_get (D := (dC, dI)) (ci := 9) (v := .ref q1) (C := RX9) (T := TX9) (N := 13) hx hb hts i_X9 hown hK hP 0 rfl rfl 0 (by decide) w_0 (fun _ h9 => h9) rfl dX9_tick_86 ?_
    refine lv_bipush (v := 7) hx hb dX9_tick_89 (by decide) ?_
    refine lv_iload hx hb dX9_tick_91 (lv_at hl 5 rfl) ?_
    refine ra_st hx hb hK hP hD hS 1 0 rfl rfl (j := 7) (rfl : (7 : Int32) = nI 7) (by omega) (by omega) dX9_tick_93 (fun H locs hP hD hS => ?_)
    have hP : va_P (dC, dI) vwCl [(q0, .inr (9, [.ref q1, .ref q2, .int svc, .ref q3, .int tl, .int cde, .int (u_10.2.1), .int (u_10.2.2), .ref q4, .int ati, .int ors, .ref q5, .ref q6])), (q1, .inl (cyI, 246, .inl (upd f_9 7 r_13))), (q2, .inl (cyI, 984, .inl zv)), (q3, .inl (cyI, 80, .inl zt)), (q4, .inl (cyI, 5, .inl (u_6.2.2.2.2))), (q5, .inl (cyI, 40, .inl zm)), (q6, .inl (cyI, 40, .inl zk))] H := hP
    have hD : va_D A [(q0, .inr (9, [.ref q1, .ref q2, .int svc, .ref q3, .int tl, .int cde, .int (u_10.2.1), .int (u_10.2.2), .ref q4, .int ati, .int ors, .ref q5, .ref q6])), (q1, .inl (cyI, 246, .inl (upd f_9 7 r_13))), (q2, .inl (cyI, 984, .inl zv)), (q3, .inl (cyI, 80, .inl zt)), (q4, .inl (cyI, 5, .inl (u_6.2.2.2.2))), (q5, .inl (cyI, 40, .inl zm)), (q6, .inl (cyI, 40, .inl zk))] := hD
    obtain ⟨f_15, ef_15⟩ : ∃ y : Nat → Int32, y = upd f_9 7 r_13 := ⟨_, rfl⟩
    rw [← ef_15] at hP hD
    have hE := hE.trans (spLet_eq ef_15)
    have hd : mG f_15 := by rw [ef_15, hr_13]; exact hc.upd fun _ => nextState_m _ _
    refine lv_iload hx hb dX9_tick_94 (lv_at hl 0 rfl) ?_
    have J106 : ∀ (w0_6_106 : Int32) (w0_7_106 : Int32) (w1_a_106 : Nat → Int32) (w4_a_106 : Nat → Int32) (hi : mG w1_a_106) (H : Heap) (locs : List Loc) (hP : va_P (dC, dI) vwCl [(q0, .inr (9, [.ref q1, .ref q2, .int svc, .ref q3, .int tl, .int cde, .int w0_6_106, .int w0_7_106, .ref q4, .int ati, .int ors, .ref q5, .ref q6])), (q1, .inl (cyI, 246, .inl w1_a_106)), (q2, .inl (cyI, 984, .inl zv)), (q3, .inl (cyI, 80, .inl zt)), (q4, .inl (cyI, 5, .inl w4_a_106)), (q5, .inl (cyI, 40, .inl zm)), (q6, .inl (cyI, 40, .inl zk))] H) (hD : va_D A [(q0, .inr (9, [.ref q1, .ref q2, .int svc, .ref q3, .int tl, .int cde, .int w0_6_106, .int w0_7_106, .ref q4, .int ati, .int ors, .ref q5, .ref q6])), (q1, .inl (cyI, 246, .inl w1_a_106)), (q2, .inl (cyI, 984, .inl zv)), (q3, .inl (cyI, 80, .inl zt)), (q4, .inl (cyI, 5, .inl w4_a_106)), (q5, .inl (cyI, 40, .inl zm)), (q6, .inl (cyI, 40, .inl zk))]) (hS : va_S A s.heap H locs) (ls : Array Slot) (hl : lv_has ls 7 [(0, .ref q0), (2, .int x_1), (3, .int x_8), (4, .int x_12), (5, .int r_13), (6, .int t0_83)]) (hE : (m_tick mm mr zs zp mos) = m_tick_j106 x_1 x_8 x_12 r_13 t0_83 w0_6_106 w0_7_106 w1_a_106 w4_a_106), W p l e (headSpec wqX9_tick ({ frames := 11, cells := 0, slots := 0, locals := 237 } : Room)).room s m ([.ref q0, .int mos] : List Value).toArray below meth c H locs 0 0 (MQ below (va_Qi (fun (r : Int32) (u : Int32 × Int32 × Int32 × (Nat → Int32) × (Nat → Int32)) => u = (m_tick mm mr zs zp mos) ∧ r = u.1 ∧ (r = 0 ∨ r = 1)) (fun (u : Int32 × Int32 × Int32 × (Nat → Int32) × (Nat → Int32)) t => va_P (dC, dI) vwCl [(q0, .inr (9, [.ref q1, .ref q2, .int svc, .ref q3, .int tl, .int cde, .int (u.2.1), .int (u.2.2.1), .ref q4, .int ati, .int ors, .ref q5, .ref q6])), (q1, .inl (cyI, 246, .inl (u.2.2.2.1))), (q2, .inl (cyI, 984, .inl zv)), (q3, .inl (cyI, 80, .inl zt)), (q4, .inl (cyI, 5, .inl (u.2.2.2.2))), (q5, .inl (cyI, 40, .inl zm)), (q6, .inl (cyI, 40, .inl zk))] t.heap ∧ va_D A [(q0, .inr (9, [.ref q1, .ref q2, .int svc, .ref q3, .int tl, .int cde, .int (u.2.1), .int (u.2.2.1), .ref q4, .int ati, .int ors, .ref q5, .ref q6])), (q1, .inl (cyI, 246, .inl (u.2.2.2.1))), (q2, .inl (cyI, 984, .inl zv)), (q3, .inl (cyI, 80, .inl zt)), (q4, .inl (cyI, 5, .inl (u.2.2.2.2))), (q5, .inl (cyI, 40, .inl zm)), (q6, .inl (cyI, 40, .inl zk))]) A) ([.ref q0, .int mos] : List Value).toArray s 0 0 A) (F0 m 106 ls []) := by
      intro w0_6_106 w0_7_106 w1_a_106 w4_a_106 hi H locs hP hD hS ls hl hE
      refine lv_iload hx hb dX9_tick_106 (lv_at hl 5 rfl) ?_
      have J124 : ∀ (w0_6_124 : Int32) (w0_7_124 : Int32) (w1_a_124 : Nat → Int32) (w4_a_124 : Nat → Int32) (hi : mG w1_a_124) (H : Heap) (locs : List Loc) (hP : va_P (dC, dI) vwCl [(q0, .inr (9, [.ref q1, .ref q2, .int svc, .ref q3, .int tl, .int cde, .int w0_6_124, .int w0_7_124, .ref q4, .int ati, .int ors, .ref q5, .ref q6])), (q1, .inl (cyI, 246, .inl w1_a_124)), (q2, .inl (cyI, 984, .inl zv)), (q3, .inl (cyI, 80, .inl zt)), (q4, .inl (cyI, 5, .inl w4_a_124)), (q5, .inl (cyI, 40, .inl zm)), (q6, .inl (cyI, 40, .inl zk))] H) (hD : va_D A [(q0, .inr (9, [.ref q1, .ref q2, .int svc, .ref q3, .int tl, .int cde, .int w0_6_124, .int w0_7_124, .ref q4, .int ati, .int ors, .ref q5, .ref q6])), (q1, .inl (cyI, 246, .inl w1_a_124)), (q2, .inl (cyI, 984, .inl zv)), (q3, .inl (cyI, 80, .inl zt)), (q4, .inl (cyI, 5, .inl w4_a_124)), (q5, .inl (cyI, 40, .inl zm)), (q6, .inl (cyI, 40, .inl zk))]) (hS : va_S A s.heap H locs) (ls : Array Slot) (hl : lv_has ls 7 [(0, .ref q0), (2, .int x_1), (3, .int x_8), (4, .int x_12), (5, .int r_13)]) (hE : (m_tick mm mr zs zp mos) = m_tick_j124 x_1 x_8 x_12 r_13 w0_6_124 w0_7_124 w1_a_124 w4_a_124), W p l e (headSpec wqX9_tick ({ frames := 11, cells := 0, slots := 0, locals := 237 } : Room)).room s m ([.ref q0, .int mos] : List Value).toArray below meth c H locs 0 0 (MQ below (va_Qi (fun (r : Int32) (u : Int32 × Int32 × Int32 × (Nat → Int32) × (Nat → Int32)) => u = (m_tick mm mr zs zp mos) ∧ r = u.1 ∧ (r = 0 ∨ r = 1)) (fun (u : Int32 × Int32 × Int32 × (Nat → Int32) × (Nat → Int32)) t => va_P (dC, dI) vwCl [(q0, .inr (9, [.ref q1, .ref q2, .int svc, .ref q3, .int tl, .int cde, .int (u.2.1), .int (u.2.2.1), .ref q4, .int ati, .int ors, .ref q5, .ref q6])), (q1, .inl (cyI, 246, .inl (u.2.2.2.1))), (q2, .inl (cyI, 984, .inl zv)), (q3, .inl (cyI, 80, .inl zt)), (q4, .inl (cyI, 5, .inl (u.2.2.2.2))), (q5, .inl (cyI, 40, .inl zm)), (q6, .inl (cyI, 40, .inl zk))] t.heap ∧ va_D A [(q0, .inr (9, [.ref q1, .ref q2, .int svc, .ref q3, .int tl, .int cde, .int (u.2.1), .int (u.2.2.1), .ref q4, .int ati, .int ors, .ref q5, .ref q6])), (q1, .inl (cyI, 246, .inl (u.2.2.2.1))), (q2, .inl (cyI, 984, .inl zv)), (q3, .inl (cyI, 80, .inl zt)), (q4, .inl (cyI, 5, .inl (u.2.2.2.2))), (q5, .inl (cyI, 40, .inl zm)), (q6, .inl (cyI, 40, .inl zk))]) A) ([.ref q0, .int mos] : List Value).toArray s 0 0 A) (F0 m 124 ls []) := by
        intro w0_6_124 w0_7_124 w1_a_124 w4_a_124 hi H locs hP hD hS ls hl hE
        refine lv_aload_n hx hb dX9_tick_124 rfl (lv_at hl 0 rfl) ?_
        refine va_get (D := (dC, dI)) (ci := 9) (v := .ref q1) (C := RX9) (T := TX9) (N := 13) hx hb hts i_X9 hown hK hP 0 rfl rfl 0 (by decide) w_0 (fun _ h9 => h9) rfl dX9_tick_125 ?_
        refine lv_sipush (v := 234) hx hb dX9_tick_128 (by decide) ?_
        refine lv_iload hx hb dX9_tick_131 (lv_at hl 4 rfl) ?_
        refine lv_iadd hx hb dX9_tick_133 ?_
        refine lv_topi (fun y_18 ey_18 => ?_)
        obtain rfl : y_18 = nI (234 + (r_13).toNatClampNeg) := ey_18.trans (nadd (rfl : (234 : Int32) = nI 234) hn_r_13.1)
        refine lv_dup2_11 hx hb dX9_tick_134 rfl rfl ?_
        refine ra_ld hx hb hK hP 1 0 rfl rfl (j := (234 + (r_13).toNatClampNeg)) (rfl : (nI (234 + (r_13).toNatClampNeg)) = nI (234 + (r_13).toNatClampNeg)) (by omega) (by omega) dX9_tick_135 ?_
        refine lv_iconst (v := 1) hx hb dX9_tick_136 (by decide) ?_
        refine lv_iadd hx hb dX9_tick_137 ?_
        refine lv_topi (fun x_19 ex_19 => ?_)
        have hE := hE.trans (spLet_eq ex_19)
        refine ra_st hx hb hK hP hD hS 1 0 rfl rfl (j := (234 + (r_13).toNatClampNeg)) (rfl : (nI (234 + (r_13).toNatClampNeg)) = nI (234 + (r_13).toNatClampNeg)) (by omega) (by omega) dX9_tick_138 (fun H locs hP hD hS => ?_)
        have hP : va_P (dC, dI) vwCl [(q0, .inr (9, [.ref q1, .ref q2, .int svc, .ref q3, .int tl, .int cde, .int w0_6_124, .int w0_7_124, .ref q4, .int ati, .int ors, .ref q5, .ref q6])), (q1, .inl (cyI, 246, .inl (upd w1_a_124 (234 + (r_13).toNatClampNeg) x_19))), (q2, .inl (cyI, 984, .inl zv)), (q3, .inl (cyI, 80, .inl zt)), (q4, .inl (cyI, 5, .inl w4_a_124)), (q5, .inl (cyI, 40, .inl zm)), (q6, .inl (cyI, 40, .inl zk))] H := hP
        have hD : va_D A [(q0, .inr (9, [.ref q1, .ref q2, .int svc, .ref q3, .int tl, .int cde, .int w0_6_124, .int w0_7_124, .ref q4, .int ati, .int ors, .ref q5, .ref q6])), (q1, .inl (cyI, 246, .inl (upd w1_a_124 (234 + (r_13).toNatClampNeg) x_19))), (q2, .inl (cyI, 984, .inl zv)), (q3, .inl (cyI, 80, .inl zt)), (q4, .inl (cyI, 5, .inl w4_a_124)), (q5, .inl (cyI, 40, .inl zm)), (q6, .inl (cyI, 40, .inl zk))] := hD
        obtain ⟨f_20, ef_20⟩ : ∃ y : Nat → Int32, y = upd w1_a_124 (234 + (r_13).toNatClampNeg) x_19 := ⟨_, rfl⟩
        rw [← ef_20] at hP hD
        have hE := hE.trans (spLet_eq ef_20)
        have hf : mG f_20 := by rw [ef_20]; exact hi.upd fun _ => mfree (by omega) _
        refine lv_aload_n hx hb dX9_tick_139 rfl (lv_at hl 0 rfl) ?_
        refine lv_iload_n hx hb dX9_tick_140 rfl (lv_at hl 1 rfl) ?_
        refine lv_iload hx hb dX9_tick_141 (lv_at hl 3 rfl) ?_
        refine mj_v (wr := []) (va_runV (As := [.int x_1, .int x_12]) (rest := []) ⟨hx, hb, hml, hown, hts⟩ (c_X9_follow l dC dI cyI H.size q0 q1 q2 q3 q4 q5 q6 svc tl cde w0_6_124 w0_7_124 ati ors f_20 zv zt w4_a_124 zm zk x_1 x_12 hf) (cwV 2 hts (gBV b_740 b_741 b_742 b_5 b_743) rfl rfl rfl (by decide +kernel) ⟨Nat.le_of_ble_eq_true rfl, Nat.le_of_ble_eq_true rfl⟩) (prm_v eM_ok he hS hP hD hK (va_free (wc := [(q0, .inr (9, [.ref q1, .ref q2, .int svc, .ref q3, .int tl, .int cde, .int w0_6_124, .int w0_7_124, .ref q4, .int ati, .int ors, .ref q5, .ref q6])), (q1, .inl (cyI, 246, .inl f_20)), (q2, .inl (cyI, 984, .inl zv)), (q3, .inl (cyI, 80, .inl zt)), (q4, .inl (cyI, 5, .inl w4_a_124)), (q5, .inl (cyI, 40, .inl zm)), (q6, .inl (cyI, 40, .inl zk))]) hD hS hA [0, 1, 2, 3, 4, 5, 6] rfl) 0 rfl rfl rfl) rfl rfl hl.1 rfl (lv_room (Nat.le_of_ble_eq_true rfl)) dX9_tick_143 ⟨Nat.le_of_ble_eq_true rfl, Nat.le_of_ble_eq_true rfl⟩) hP hD hS hA [0, 1, 2, 3, 4, 5, 6] [] rfl rfl (by decide) (by decide) (fun u_21 H locs hw hP hD hS => ?_)
        have hu_21 := hw
        have hE := hE.trans (spLet_eq hu_21)
        have hP : va_P (dC, dI) vwCl [(q0, .inr (9, [.ref q1, .ref q2, .int svc, .ref q3, .int tl, .int cde, .int w0_6_124, .int w0_7_124, .ref q4, .int ati, .int ors, .ref q5, .ref q6])), (q1, .inl (cyI, 246, .inl u_21)), (q2, .inl (cyI, 984, .inl zv)), (q3, .inl (cyI, 80, .inl zt)), (q4, .inl (cyI, 5, .inl w4_a_124)), (q5, .inl (cyI, 40, .inl zm)), (q6, .inl (cyI, 40, .inl zk))] H := hP
        have hD : va_D A [(q0, .inr (9, [.ref q1, .ref q2, .int svc, .ref q3, .int tl, .int cde, .int w0_6_124, .int w0_7_124, .ref q4, .int ati, .int ors, .ref q5, .ref q6])), (q1, .inl (cyI, 246, .inl u_21)), (q2, .inl (cyI, 984, .inl zv)), (q3, .inl (cyI, 80, .inl zt)), (q4, .inl (cyI, 5, .inl w4_a_124)), (q5, .inl (cyI, 40, .inl zm)), (q6, .inl (cyI, 40, .inl zk))] := hD
        refine lv_iload_n hx hb dX9_tick_146 rfl (lv_at hl 2 rfl) ?_
        refine lv_if_ne (tgt := 154) hx hb dX9_tick_147 (by decide) (fun c_22 => ?_) (fun c_22 => ?_)
        ·
          have hE := hE.trans (if_neg c_22)
          refine lv_iconst (v := 0) hx hb dX9_tick_154 (by decide) ?_
          exact W.zret (v := (0 : Int32)) hx hb hr rfl (fun t h9 hW => ⟨⟨(0 : Int32), (((0 : Int32), w0_6_124, w0_7_124, u_21, w4_a_124) : Int32 × Int32 × Int32 × (Nat → Int32) × (Nat → Int32)), rfl, ⟨hE.symm, rfl, (by decide)⟩, by rw [h9]; exact hP, hD⟩, hS.F h9⟩) hS.2.2 dX9_tick_155
        ·
          have hE := hE.trans (if_pos c_22)
          refine lv_iconst (v := 1) hx hb dX9_tick_150 (by decide) ?_
          refine lv_goto (tgt := 155) hx hb dX9_tick_151 (by decide) ?_
          exact W.zret (v := (1 : Int32)) hx hb hr rfl (fun t h9 hW => ⟨⟨(1 : Int32), (((1 : Int32), w0_6_124, w0_7_124, u_21, w4_a_124) : Int32 × Int32 × Int32 × (Nat → Int32) × (Nat → Int32)), rfl, ⟨hE.symm, rfl, (by decide)⟩, by rw [h9]; exact hP, hD⟩, hS.F h9⟩) hS.2.2 dX9_tick_155
      refine lv_if_eq (tgt := 124) hx hb dX9_tick_108 (by decide) (fun c_17 => ?_) (fun c_17 => ?_)
      ·
        have hE := hE.trans (if_pos c_17)
        exact J124 w0_6_106 w0_7_106 w1_a_106 w4_a_106 hi _ _ hP hD hS ls (lv_sub hl [0, 1, 2, 3, 4] rfl) hE
      ·
        have hE := hE.trans (if_neg c_17)
        refine lv_iload hx hb dX9_tick_111 (lv_at hl 4 rfl) ?_
        refine lv_iconst (v := 2) hx hb dX9_tick_113 (by decide) ?_
        refine lv_icmp_ne (tgt := 124) hx hb dX9_tick_114 (by decide) (fun c_23 => ?_) (fun c_23 => ?_)
        ·
          have c_23 : ¬ (r_13).toNatClampNeg = 2 := by
            have h1 : (r_13) = nI ((r_13).toNatClampNeg) := hn_r_13.1
            have h2 : ((2 : Int32)) = nI 2 := rfl
            have h3 : ¬ (nI ((r_13).toNatClampNeg) = nI 2) := by first | exact c_23 | (rw [← h1, ← h2]; exact c_23)
            exact fun h => h3 ((nI_eq (by omega) (by omega)).mpr h)
          have hE := hE.trans (if_neg c_23)
          exact J124 w0_6_106 w0_7_106 w1_a_106 w4_a_106 hi _ _ hP hD hS ls (lv_sub hl [0, 1, 2, 3, 4] rfl) hE
        ·
          have c_23 : (r_13).toNatClampNeg = 2 := by
            have h1 : (r_13) = nI ((r_13).toNatClampNeg) := hn_r_13.1
            have h2 : ((2 : Int32)) = nI 2 := rfl
            have h3 : (nI ((r_13).toNatClampNeg) = nI 2) := by first | exact c_23 | (rw [← h1, ← h2]; exact c_23)
            exact (nI_eq (by omega) (by omega)).mp h3
          have hE := hE.trans (if_pos c_23)
          refine lv_aload_n hx hb dX9_tick_117 rfl (lv_at hl 0 rfl) ?_
          refine lv_iconst (v := 2) hx hb dX9_tick_118 (by decide) ?_
          refine lv_iload hx hb dX9_tick_119 (lv_at hl 3 rfl) ?_
          refine mj_v (wr := []) (va_runV (As := [.int (2 : Int32), .int x_12]) (rest := []) ⟨hx, hb, hml, hown, hts⟩ (c_X9_log l dC dI cyI H.size q0 q1 q2 q3 q4 q5 q6 svc tl cde w0_6_106 w0_7_106 ati ors w1_a_106 zv zt w4_a_106 zm zk (2 : Int32) x_12 hi.ev.1 hi.ev.2) (cwV 2 hts (gBV b_732 b_733 b_734 b_5 b_735) rfl rfl rfl (by decide +kernel) ⟨Nat.le_of_ble_eq_true rfl, Nat.le_of_ble_eq_true rfl⟩) (prm_v eM_ok he hS hP hD hK (va_free (wc := [(q0, .inr (9, [.ref q1, .ref q2, .int svc, .ref q3, .int tl, .int cde, .int w0_6_106, .int w0_7_106, .ref q4, .int ati, .int ors, .ref q5, .ref q6])), (q1, .inl (cyI, 246, .inl w1_a_106)), (q2, .inl (cyI, 984, .inl zv)), (q3, .inl (cyI, 80, .inl zt)), (q4, .inl (cyI, 5, .inl w4_a_106)), (q5, .inl (cyI, 40, .inl zm)), (q6, .inl (cyI, 40, .inl zk))]) hD hS hA [0, 1, 2, 3, 4, 5, 6] rfl) 0 rfl rfl rfl) rfl rfl hl.1 rfl (lv_room (Nat.le_of_ble_eq_true rfl)) dX9_tick_121 ⟨Nat.le_of_ble_eq_true rfl, Nat.le_of_ble_eq_true rfl⟩) hP hD hS hA [0, 1, 2, 3, 4, 5, 6] [] rfl rfl (by decide) (by decide) (fun u_24 H locs hw hP hD hS => ?_)
          have hu_24 := hw
          have hE := hE.trans (spLet_eq hu_24)
          have hP : va_P (dC, dI) vwCl [(q0, .inr (9, [.ref q1, .ref q2, .int svc, .ref q3, .int tl, .int cde, .int w0_6_106, .int w0_7_106, .ref q4, .int ati, .int ors, .ref q5, .ref q6])), (q1, .inl (cyI, 246, .inl u_24)), (q2, .inl (cyI, 984, .inl zv)), (q3, .inl (cyI, 80, .inl zt)), (q4, .inl (cyI, 5, .inl w4_a_106)), (q5, .inl (cyI, 40, .inl zm)), (q6, .inl (cyI, 40, .inl zk))] H := hP
          have hD : va_D A [(q0, .inr (9, [.ref q1, .ref q2, .int svc, .ref q3, .int tl, .int cde, .int w0_6_106, .int w0_7_106, .ref q4, .int ati, .int ors, .ref q5, .ref q6])), (q1, .inl (cyI, 246, .inl u_24)), (q2, .inl (cyI, 984, .inl zv)), (q3, .inl (cyI, 80, .inl zt)), (q4, .inl (cyI, 5, .inl w4_a_106)), (q5, .inl (cyI, 40, .inl zm)), (q6, .inl (cyI, 40, .inl zk))] := hD
          exact J124 w0_6_106 w0_7_106 u_24 w4_a_106 (by rw [hu_24]; exact log_G hi _ _) _ _ hP hD hS ls (lv_sub hl [0, 1, 2, 3, 4] rfl) hE
    refine lv_if_eq (tgt := 106) hx hb dX9_tick_96 (by decide) (fun c_16 => ?_) (fun c_16 => ?_)
    ·
      have hE := hE.trans (if_pos c_16)
      exact J106 (u_10.2.1) (u_10.2.2) f_15 (u_6.2.2.2.2) hd _ _ hP hD hS ls (lv_sub hl [1, 2, 3, 4, 5, 0] rfl) hE
    ·
      have hE := hE.trans (if_neg c_16)
      refine lv_aload_n hx hb dX9_tick_99 rfl (lv_at hl 1 rfl) ?_
      refine lv_iconst (v := 1) hx hb dX9_tick_100 (by decide) ?_
      refine lv_iload hx hb dX9_tick_101 (lv_at hl 5 rfl) ?_
      refine mj_v (wr := []) (va_runV (As := [.int (1 : Int32), .int r_13]) (rest := []) ⟨hx, hb, hml, hown, hts⟩ (c_X9_log l dC dI cyI H.size q0 q1 q2 q3 q4 q5 q6 svc tl cde (u_10.2.1) (u_10.2.2) ati ors f_15 zv zt (u_6.2.2.2.2) zm zk (1 : Int32) r_13 hd.ev.1 hd.ev.2) (cwV 2 hts (gBV b_732 b_733 b_734 b_5 b_735) rfl rfl rfl (by decide +kernel) ⟨Nat.le_of_ble_eq_true rfl, Nat.le_of_ble_eq_true rfl⟩) (prm_v eM_ok he hS hP hD hK (va_free (wc := [(q0, .inr (9, [.ref q1, .ref q2, .int svc, .ref q3, .int tl, .int cde, .int (u_10.2.1), .int (u_10.2.2), .ref q4, .int ati, .int ors, .ref q5, .ref q6])), (q1, .inl (cyI, 246, .inl f_15)), (q2, .inl (cyI, 984, .inl zv)), (q3, .inl (cyI, 80, .inl zt)), (q4, .inl (cyI, 5, .inl (u_6.2.2.2.2))), (q5, .inl (cyI, 40, .inl zm)), (q6, .inl (cyI, 40, .inl zk))]) hD hS hA [0, 1, 2, 3, 4, 5, 6] rfl) 0 rfl rfl rfl) rfl rfl hl.1 rfl (lv_room (Nat.le_of_ble_eq_true rfl)) dX9_tick_103 ⟨Nat.le_of_ble_eq_true rfl, Nat.le_of_ble_eq_true rfl⟩) hP hD hS hA [0, 1, 2, 3, 4, 5, 6] [] rfl rfl (by decide) (by decide) (fun u_25 H locs hw hP hD hS => ?_)
      have hu_25 := hw
      have hE := hE.trans (spLet_eq hu_25)
      have hP : va_P (dC, dI) vwCl [(q0, .inr (9, [.ref q1, .ref q2, .int svc, .ref q3, .int tl, .int cde, .int (u_10.2.1), .int (u_10.2.2), .ref q4, .int ati, .int ors, .ref q5, .ref q6])), (q1, .inl (cyI, 246, .inl u_25)), (q2, .inl (cyI, 984, .inl zv)), (q3, .inl (cyI, 80, .inl zt)), (q4, .inl (cyI, 5, .inl (u_6.2.2.2.2))), (q5, .inl (cyI, 40, .inl zm)), (q6, .inl (cyI, 40, .inl zk))] H := hP
      have hD : va_D A [(q0, .inr (9, [.ref q1, .ref q2, .int svc, .ref q3, .int tl, .int cde, .int (u_10.2.1), .int (u_10.2.2), .ref q4, .int ati, .int ors, .ref q5, .ref q6])), (q1, .inl (cyI, 246, .inl u_25)), (q2, .inl (cyI, 984, .inl zv)), (q3, .inl (cyI, 80, .inl zt)), (q4, .inl (cyI, 5, .inl (u_6.2.2.2.2))), (q5, .inl (cyI, 40, .inl zm)), (q6, .inl (cyI, 40, .inl zk))] := hD
      exact J106 (u_10.2.1) (u_10.2.2) u_25 (u_6.2.2.2.2) (by rw [hu_25]; exact log_G hd _ _) _ _ hP hD hS ls (lv_sub hl [1, 2, 3, 4, 5, 0] rfl) hE
  refine lv_icmp_eq (tgt := 82) hx hb dX9_tick_75 (by decide) (fun c_14 => ?_) (fun c_14 => ?_)
  ·
    have hE := hE.trans (if_pos c_14)
    refine lv_iconst (v := 0) hx hb dX9_tick_82 (by decide) ?_
    exact J83 (0 : Int32) ls (lv_sub hl [4, 3, 2, 1, 0] rfl) hE
  ·
    have hE := hE.trans (if_neg c_14)
    refine lv_iconst (v := 1) hx hb dX9_tick_78 (by decide) ?_
    refine lv_goto (tgt := 83) hx hb dX9_tick_79 (by decide) ?_
    exact J83 (1 : Int32) ls (lv_sub hl [4, 3, 2, 1, 0] rfl) hE

