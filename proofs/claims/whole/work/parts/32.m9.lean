def m_setCapacity (svc : Int32) (zs : Nat → Int32) (zv : Nat → Int32) (ta : Int32) (ro : Int32) (co : Int32) (ma : Int32) : Int32 × Int32 × Int32 × (Nat → Int32) × (Nat → Int32) :=
  spLet (m_isPlace ta ro co) (fun r_1 => if r_1 = 0 then (spLet (m_fails (1 : Int32)) (fun u_12 => ((u_12.1), svc, (u_12.2), zs, zv))) else (spLet (m_in ma (0 : Int32) (100000 : Int32)) (fun r_3 => if r_3 = 0 then (spLet (m_fails (2 : Int32)) (fun u_5 => ((u_5.1), svc, (u_5.2), zs, zv))) else (spLet (m_change svc zs zv (((47 + (24 * ta.toNatClampNeg)) + (6 * ro.toNatClampNeg)) + co.toNatClampNeg) ma) (fun u_10 => ((u_10.1), (u_10.2.1), (0 : Int32), (u_10.2.2.1), (u_10.2.2.2)))))))
set_option maxHeartbeats 1000000 in
set_option maxRecDepth 100000 in
theorem c_X9_setCapacity (l : Launch) (dC : Nat → ClassId) (dI : Nat → Nat → Nat) (cyI : ClassId) (sz : Nat) (q0 : Nat) (q1 : Nat) (q2 : Nat) (q3 : Nat) (q4 : Nat) (q5 : Nat) (q6 : Nat) (svc : Int32) (tl : Int32) (cde : Int32) (mm : Int32) (mr : Int32) (ati : Int32) (ors : Int32) (zs : Nat → Int32) (zv : Nat → Int32) (zt : Nat → Int32) (zp : Nat → Int32) (zm : Nat → Int32) (zk : Nat → Int32) (ta : Int32) (ro : Int32) (co : Int32) (ma : Int32) (hsv : svc = nI svc.toNatClampNeg) (hs4 : svc.toNatClampNeg ≤ 4) (hG : mG zs) : Met l yX9_setCapacity wqX9_setCapacity ({ frames := 2, cells := 0, slots := 0, locals := 44 } : Room) (va_Pc [.ref q0, .int ta, .int ro, .int co, .int ma] (pC (dC, dI) [(q0, .inr (9, [.ref q1, .ref q2, .int svc, .ref q3, .int tl, .int cde, .int mm, .int mr, .ref q4, .int ati, .int ors, .ref q5, .ref q6])), (q1, .inl (cyI, 246, .inl zs)), (q2, .inl (cyI, 984, .inl zv)), (q3, .inl (cyI, 80, .inl zt)), (q4, .inl (cyI, 5, .inl zp)), (q5, .inl (cyI, 40, .inl zm)), (q6, .inl (cyI, 40, .inl zk))] [(cyI, .int)] eM sz)) (va_Qi (fun (r : Int32) (u : Int32 × Int32 × Int32 × (Nat → Int32) × (Nat → Int32)) => u = (m_setCapacity svc zs zv ta ro co ma) ∧ r = u.1) (fun (u : Int32 × Int32 × Int32 × (Nat → Int32) × (Nat → Int32)) t => va_P (dC, dI) vwCl [(q0, .inr (9, [.ref q1, .ref q2, .int (u.2.1), .ref q3, .int tl, .int (u.2.2.1), .int mm, .int mr, .ref q4, .int ati, .int ors, .ref q5, .ref q6])), (q1, .inl (cyI, 246, .inl (u.2.2.2.1))), (q2, .inl (cyI, 984, .inl (u.2.2.2.2))), (q3, .inl (cyI, 80, .inl zt)), (q4, .inl (cyI, 5, .inl zp)), (q5, .inl (cyI, 40, .inl zm)), (q6, .inl (cyI, 40, .inl zk))] t.heap ∧ va_D (va_A [(q0, .inr (9, [.ref q1, .ref q2, .int svc, .ref q3, .int tl, .int cde, .int mm, .int mr, .ref q4, .int ati, .int ors, .ref q5, .ref q6])), (q1, .inl (cyI, 246, .inl zs)), (q2, .inl (cyI, 984, .inl zv)), (q3, .inl (cyI, 80, .inl zt)), (q4, .inl (cyI, 5, .inl zp)), (q5, .inl (cyI, 40, .inl zm)), (q6, .inl (cyI, 40, .inl zk))] sz) [(q0, .inr (9, [.ref q1, .ref q2, .int (u.2.1), .ref q3, .int tl, .int (u.2.2.1), .int mm, .int mr, .ref q4, .int ati, .int ors, .ref q5, .ref q6])), (q1, .inl (cyI, 246, .inl (u.2.2.2.1))), (q2, .inl (cyI, 984, .inl (u.2.2.2.2))), (q3, .inl (cyI, 80, .inl zt)), (q4, .inl (cyI, 5, .inl zp)), (q5, .inl (cyI, 40, .inl zm)), (q6, .inl (cyI, 40, .inl zk))]) (va_A [(q0, .inr (9, [.ref q1, .ref q2, .int svc, .ref q3, .int tl, .int cde, .int mm, .int mr, .ref q4, .int ati, .int ors, .ref q5, .ref q6])), (q1, .inl (cyI, 246, .inl zs)), (q2, .inl (cyI, 984, .inl zv)), (q3, .inl (cyI, 80, .inl zt)), (q4, .inl (cyI, 5, .inl zp)), (q5, .inl (cyI, 40, .inl zm)), (q6, .inl (cyI, 40, .inl zk))] sz)) 0 0 (va_A [(q0, .inr (9, [.ref q1, .ref q2, .int svc, .ref q3, .int tl, .int cde, .int mm, .int mr, .ref q4, .int ati, .int ors, .ref q5, .ref q6])), (q1, .inl (cyI, 246, .inl zs)), (q2, .inl (cyI, 984, .inl zv)), (q3, .inl (cyI, 80, .inl zt)), (q4, .inl (cyI, 5, .inl zp)), (q5, .inl (cyI, 40, .inl zm)), (q6, .inl (cyI, 40, .inl zk))] sz) := by
  refine Met.ofW (cc := cX9_setCapacity) (maxL := 5) (ret := (some .int)) (by decide) rfl ?_
  intro p e s m args below meth c s₁ B hml hv
  obtain ⟨rfl, hsz, hP, hK, hD0, he⟩ := hv
  have hx := B.exec
  have hb := B.bytes
  have hr := B.returns
  have hts := atoms_spec (ws := wqX9_setCapacity) B.pre
  have hown : s.vm.findClass RX9 = some m.cls := findClass_of_methodNamed B.named
  have hlocks := B.notSynchronized
  have w_0 := hts (Cond.fieldLink RX9 28 "CraneLimiterModel" "code" "I") (List.mem_cons_of_mem _ b_181)
  have w_1 := hts (Cond.constant RX9 145 (100000)) (List.mem_cons_of_mem _ b_234)
  have i_X9 : ∀ w ∈ u_ws RX9 TX9 13, w ∈ wqX9_setCapacity := fun w h => List.mem_cons_of_mem _ (bX9 w h)
  subst hsz
  have hD := hD0.self (sz := s.heap.size)
  generalize hAe : va_A [(q0, .inr (9, [.ref q1, .ref q2, .int svc, .ref q3, .int tl, .int cde, .int mm, .int mr, .ref q4, .int ati, .int ors, .ref q5, .ref q6])), (q1, .inl (cyI, 246, .inl zs)), (q2, .inl (cyI, 984, .inl zv)), (q3, .inl (cyI, 80, .inl zt)), (q4, .inl (cyI, 5, .inl zp)), (q5, .inl (cyI, 40, .inl zm)), (q6, .inl (cyI, 40, .inl zk))] s.heap.size = A at hD he ⊢
  have hA : ∀ q : Nat, s.heap.size ≤ q → A q := fun q h => by rw [← hAe]; exact Or.inr h
  have hS : va_S A s.heap s.heap [] := va_S.rf
  have hP : va_P (dC, dI) vwCl [(q0, .inr (9, [.ref q1, .ref q2, .int svc, .ref q3, .int tl, .int cde, .int mm, .int mr, .ref q4, .int ati, .int ors, .ref q5, .ref q6])), (q1, .inl (cyI, 246, .inl zs)), (q2, .inl (cyI, 984, .inl zv)), (q3, .inl (cyI, 80, .inl zt)), (q4, .inl (cyI, 5, .inl zp)), (q5, .inl (cyI, 40, .inl zm)), (q6, .inl (cyI, 40, .inl zk))] s.heap := hP
  have hl := lv_entry ([.ref q0, .int ta, .int ro, .int co, .int ma] : List Value) (n := 5) (Nat.le_of_ble_eq_true rfl)
  rw [lg_entry_eq]
  generalize (lg_sl ([.ref q0, .int ta, .int ro, .int co, .int ma] : List Value) ++ List.replicate (5 - (lg_sl ([.ref q0, .int ta, .int ro, .int co, .int ma] : List Value)).length) Slot.unset).toArray = ls at hl ⊢
  have hl : lv_has ls 5 [(0, .ref q0), (1, .int ta), (2, .int ro), (3, .int co), (4, .int ma)] := hl
  have hE : m_setCapacity svc zs zv ta ro co ma = m_setCapacity svc zs zv ta ro co ma := rfl
  refine lv_aload_n hx hb dX9_setCapacity_0 rfl (lv_at hl 0 rfl) ?_
  refine lv_iconst (v := 0) hx hb dX9_setCapacity_1 (by decide) ?_
  refine va_put (D := (dC, dI)) (ci := 9) (v := .int (0 : Int32)) (ty := .int) (C := RX9) (T := TX9) (N := 13) hx hb hts i_X9 tyX9 tyX9_ok nmX9 hown hK hP hD hS 0 rfl rfl 5 (by decide) w_0 (fun _ h9 => h9) rfl (by decide +kernel) (rfl) (rfl) (Nat.le_of_ble_eq_true rfl) dX9_setCapacity_2 (fun H locs hP hD hS => ?_)
  have hP : va_P (dC, dI) vwCl [(q0, .inr (9, [.ref q1, .ref q2, .int svc, .ref q3, .int tl, .int (0 : Int32), .int mm, .int mr, .ref q4, .int ati, .int ors, .ref q5, .ref q6])), (q1, .inl (cyI, 246, .inl zs)), (q2, .inl (cyI, 984, .inl zv)), (q3, .inl (cyI, 80, .inl zt)), (q4, .inl (cyI, 5, .inl zp)), (q5, .inl (cyI, 40, .inl zm)), (q6, .inl (cyI, 40, .inl zk))] H := hP
  have hD : va_D A [(q0, .inr (9, [.ref q1, .ref q2, .int svc, .ref q3, .int tl, .int (0 : Int32), .int mm, .int mr, .ref q4, .int ati, .int ors, .ref q5, .ref q6])), (q1, .inl (cyI, 246, .inl zs)), (q2, .inl (cyI, 984, .inl zv)), (q3, .inl (cyI, 80, .inl zt)), (q4, .inl (cyI, 5, .inl zp)), (q5, .inl (cyI, 40, .inl zm)), (q6, .inl (cyI, 40, .inl zk))] := hD
  refine lv_iload_n hx hb dX9_setCapacity_5 rfl (lv_at hl 1 rfl) ?_
  refine lv_iload_n hx hb dX9_setCapacity_6 rfl (lv_at hl 2 rfl) ?_
  refine lv_iload_n hx hb dX9_setCapacity_7 rfl (lv_at hl 3 rfl) ?_
  refine vp_callSi (W.runS (As := [.int ta, .int ro, .int co]) (rest := []) ⟨hx, hb, hml, hown, hts⟩ (c_X9_isPlace l dC dI cyI ta ro co) (va_cwS 3 hts (gBS b_235 b_236 b_5 b_237) rfl rfl rfl (by decide +kernel) ⟨Nat.le_of_ble_eq_true rfl, Nat.le_of_ble_eq_true rfl⟩) (pre_s eM_ok he hS (hP.sub (ws' := []) [] rfl) (hK.sub (tys' := []) [] rfl)) rfl rfl hl.1 rfl (lv_room (Nat.le_of_ble_eq_true rfl)) dX9_setCapacity_8 ⟨Nat.zero_le _, Nat.zero_le _⟩) (fun r_1 hr_1 => ?_)
  obtain ⟨hr_1, hbr_1⟩ := hr_1
  have hE := hE.trans (spLet_eq hr_1)
  refine lv_if_ne (tgt := 20) hx hb dX9_setCapacity_11 (by decide) (fun c_2 => ?_) (fun c_2 => ?_)
  ·
    have hE := hE.trans (if_neg c_2)
    have ht := isPlace_n hr_1 (by assumption)
    have ht2 := ht.2.1
    have ht3 := ht.2.2.2.1
    have ht4 := ht.2.2.2.2.2
    refine lv_iload hx hb dX9_setCapacity_20 (lv_at hl 4 rfl) ?_
    refine lv_iconst (v := 0) hx hb dX9_setCapacity_22 (by decide) ?_
    refine lv_ldc (v := 100000) hx hb hown w_1 dX9_setCapacity_23 ?_
    refine vp_callSi (W.runS (As := [.int ma, .int (0 : Int32), .int (100000 : Int32)]) (rest := []) ⟨hx, hb, hml, hown, hts⟩ (c_X9_in l dC dI cyI ma (0 : Int32) (100000 : Int32)) (va_cwS 3 hts (gBS b_182 b_183 b_5 b_184) rfl rfl rfl (by decide +kernel) ⟨Nat.le_of_ble_eq_true rfl, Nat.le_of_ble_eq_true rfl⟩) (pre_s eM_ok he hS (hP.sub (ws' := []) [] rfl) (hK.sub (tys' := []) [] rfl)) rfl rfl hl.1 rfl (lv_room (Nat.le_of_ble_eq_true rfl)) dX9_setCapacity_25 ⟨Nat.zero_le _, Nat.zero_le _⟩) (fun r_3 hr_3 => ?_)
    obtain ⟨hr_3, hbr_3⟩ := hr_3
    have hE := hE.trans (spLet_eq hr_3)
    refine lv_if_eq (tgt := 54) hx hb dX9_setCapacity_28 (by decide) (fun c_4 => ?_) (fun c_4 => ?_)
    ·
      have hE := hE.trans (if_pos c_4)
      refine lv_aload_n hx hb dX9_setCapacity_54 rfl (lv_at hl 0 rfl) ?_
      refine lv_iconst (v := 2) hx hb dX9_setCapacity_55 (by decide) ?_
      refine mj_i (wr := []) (va_runV (As := [.int (2 : Int32)]) (rest := []) ⟨hx, hb, hml, hown, hts⟩ (c_X9_fails l dC dI cyI H.size q0 q1 q2 q3 q4 q5 q6 svc tl (0 : Int32) mm mr ati ors zs zv zt zp zm zk (2 : Int32)) (cwV 1 hts (gBV b_185 b_186 b_187 b_5 b_188) rfl rfl rfl (by decide +kernel) ⟨Nat.le_of_ble_eq_true rfl, Nat.le_of_ble_eq_true rfl⟩) (prm_v eM_ok he hS hP hD hK (va_free (wc := [(q0, .inr (9, [.ref q1, .ref q2, .int svc, .ref q3, .int tl, .int (0 : Int32), .int mm, .int mr, .ref q4, .int ati, .int ors, .ref q5, .ref q6])), (q1, .inl (cyI, 246, .inl zs)), (q2, .inl (cyI, 984, .inl zv)), (q3, .inl (cyI, 80, .inl zt)), (q4, .inl (cyI, 5, .inl zp)), (q5, .inl (cyI, 40, .inl zm)), (q6, .inl (cyI, 40, .inl zk))]) hD hS hA [0, 1, 2, 3, 4, 5, 6] rfl) 0 rfl rfl rfl) rfl rfl hl.1 rfl (lv_room (Nat.le_of_ble_eq_true rfl)) dX9_setCapacity_56 ⟨Nat.le_of_ble_eq_true rfl, Nat.le_of_ble_eq_true rfl⟩) hP hD hS hA [0, 1, 2, 3, 4, 5, 6] [] rfl rfl (by decide) (by decide) (fun r_6 u_5 H locs hw hP hD hS => ?_)
      obtain ⟨hu_5, rfl⟩ := hw
      have hE := hE.trans (spLet_eq hu_5)
      have hP : va_P (dC, dI) vwCl [(q0, .inr (9, [.ref q1, .ref q2, .int svc, .ref q3, .int tl, .int (u_5.2), .int mm, .int mr, .ref q4, .int ati, .int ors, .ref q5, .ref q6])), (q1, .inl (cyI, 246, .inl zs)), (q2, .inl (cyI, 984, .inl zv)), (q3, .inl (cyI, 80, .inl zt)), (q4, .inl (cyI, 5, .inl zp)), (q5, .inl (cyI, 40, .inl zm)), (q6, .inl (cyI, 40, .inl zk))] H := hP
      have hD : va_D A [(q0, .inr (9, [.ref q1, .ref q2, .int svc, .ref q3, .int tl, .int (u_5.2), .int mm, .int mr, .ref q4, .int ati, .int ors, .ref q5, .ref q6])), (q1, .inl (cyI, 246, .inl zs)), (q2, .inl (cyI, 984, .inl zv)), (q3, .inl (cyI, 80, .inl zt)), (q4, .inl (cyI, 5, .inl zp)), (q5, .inl (cyI, 40, .inl zm)), (q6, .inl (cyI, 40, .inl zk))] := hD
      exact W.iret (v := (u_5.1)) hx hb hr (fun t h9 hW => ⟨⟨(u_5.1), (((u_5.1), svc, (u_5.2), zs, zv) : Int32 × Int32 × Int32 × (Nat → Int32) × (Nat → Int32)), rfl, ⟨hE.symm, rfl⟩, by rw [h9]; exact hP, hD⟩, hS.F h9⟩) hS.2.2 dX9_setCapacity_59
    ·
      have hE := hE.trans (if_neg c_4)
      refine lv_aload_n hx hb dX9_setCapacity_31 rfl (lv_at hl 0 rfl) ?_
      refine lv_bipush (v := 47) hx hb dX9_setCapacity_32 (by decide) ?_
      refine lv_bipush (v := 24) hx hb dX9_setCapacity_34 (by decide) ?_
      refine lv_iload_n hx hb dX9_setCapacity_36 rfl (lv_at hl 1 rfl) ?_
      refine lv_imul hx hb dX9_setCapacity_37 ?_
      refine lv_iadd hx hb dX9_setCapacity_38 ?_
      refine lv_topi (fun y_7 ey_7 => ?_)
      obtain rfl : y_7 = nI (47 + (24 * ta.toNatClampNeg)) := ey_7.trans (nadd (rfl : (47 : Int32) = nI 47) (nmul (rfl : (24 : Int32) = nI 24) ht.1))
      refine lv_bipush (v := 6) hx hb dX9_setCapacity_39 (by decide) ?_
      refine lv_iload_n hx hb dX9_setCapacity_41 rfl (lv_at hl 2 rfl) ?_
      refine lv_imul hx hb dX9_setCapacity_42 ?_
      refine lv_iadd hx hb dX9_setCapacity_43 ?_
      refine lv_topi (fun y_8 ey_8 => ?_)
      obtain rfl : y_8 = nI ((47 + (24 * ta.toNatClampNeg)) + (6 * ro.toNatClampNeg)) := ey_8.trans (nadd (rfl : (nI (47 + (24 * ta.toNatClampNeg))) = nI (47 + (24 * ta.toNatClampNeg))) (nmul (rfl : (6 : Int32) = nI 6) ht.2.2.1))
      refine lv_iload_n hx hb dX9_setCapacity_44 rfl (lv_at hl 3 rfl) ?_
      refine lv_iadd hx hb dX9_setCapacity_45 ?_
      refine lv_topi (fun y_9 ey_9 => ?_)
      obtain rfl : y_9 = nI (((47 + (24 * ta.toNatClampNeg)) + (6 * ro.toNatClampNeg)) + co.toNatClampNeg) := ey_9.trans (nadd (rfl : (nI ((47 + (24 * ta.toNatClampNeg)) + (6 * ro.toNatClampNeg))) = nI ((47 + (24 * ta.toNatClampNeg)) + (6 * ro.toNatClampNeg))) ht.2.2.2.2.1)
      refine lv_iload hx hb dX9_setCapacity_46 (lv_at hl 4 rfl) ?_
      refine mj_i (wr := []) (va_runV (As := [.int (nI (((47 + (24 * ta.toNatClampNeg)) + (6 * ro.toNatClampNeg)) + co.toNatClampNeg)), .int ma]) (rest := []) ⟨hx, hb, hml, hown, hts⟩ (c_X9_change l dC dI cyI H.size q0 q1 q2 q3 q4 q5 q6 svc tl (0 : Int32) mm mr ati ors zs zv zt zp zm zk (((47 + (24 * ta.toNatClampNeg)) + (6 * ro.toNatClampNeg)) + co.toNatClampNeg) ma hsv hs4 (by omega)) (cwV 2 hts (gBV b_189 b_190 b_191 b_5 b_192) rfl rfl rfl (by decide +kernel) ⟨Nat.le_of_ble_eq_true rfl, Nat.le_of_ble_eq_true rfl⟩) (prm_v eM_ok he hS hP hD hK (va_free (wc := [(q0, .inr (9, [.ref q1, .ref q2, .int svc, .ref q3, .int tl, .int (0 : Int32), .int mm, .int mr, .ref q4, .int ati, .int ors, .ref q5, .ref q6])), (q1, .inl (cyI, 246, .inl zs)), (q2, .inl (cyI, 984, .inl zv)), (q3, .inl (cyI, 80, .inl zt)), (q4, .inl (cyI, 5, .inl zp)), (q5, .inl (cyI, 40, .inl zm)), (q6, .inl (cyI, 40, .inl zk))]) hD hS hA [0, 1, 2, 3, 4, 5, 6] rfl) 0 rfl rfl rfl) rfl rfl hl.1 rfl (lv_room (Nat.le_of_ble_eq_true rfl)) dX9_setCapacity_48 ⟨Nat.le_of_ble_eq_true rfl, Nat.le_of_ble_eq_true rfl⟩) hP hD hS hA [0, 1, 2, 3, 4, 5, 6] [] rfl rfl (by decide) (by decide) (fun r_11 u_10 H locs hw hP hD hS => ?_)
      obtain ⟨hu_10, rfl⟩ := hw
      have hE := hE.trans (spLet_eq hu_10)
      have hP : va_P (dC, dI) vwCl [(q0, .inr (9, [.ref q1, .ref q2, .int (u_10.2.1), .ref q3, .int tl, .int (0 : Int32), .int mm, .int mr, .ref q4, .int ati, .int ors, .ref q5, .ref q6])), (q1, .inl (cyI, 246, .inl (u_10.2.2.1))), (q2, .inl (cyI, 984, .inl (u_10.2.2.2))), (q3, .inl (cyI, 80, .inl zt)), (q4, .inl (cyI, 5, .inl zp)), (q5, .inl (cyI, 40, .inl zm)), (q6, .inl (cyI, 40, .inl zk))] H := hP
      have hD : va_D A [(q0, .inr (9, [.ref q1, .ref q2, .int (u_10.2.1), .ref q3, .int tl, .int (0 : Int32), .int mm, .int mr, .ref q4, .int ati, .int ors, .ref q5, .ref q6])), (q1, .inl (cyI, 246, .inl (u_10.2.2.1))), (q2, .inl (cyI, 984, .inl (u_10.2.2.2))), (q3, .inl (cyI, 80, .inl zt)), (q4, .inl (cyI, 5, .inl zp)), (q5, .inl (cyI, 40, .inl zm)), (q6, .inl (cyI, 40, .inl zk))] := hD
      refine lv_goto (tgt := 59) hx hb dX9_setCapacity_51 (by decide) ?_
      exact W.iret (v := (u_10.1)) hx hb hr (fun t h9 hW => ⟨⟨(u_10.1), (((u_10.1), (u_10.2.1), (0 : Int32), (u_10.2.2.1), (u_10.2.2.2)) : Int32 × Int32 × Int32 × (Nat → Int32) × (Nat → Int32)), rfl, ⟨hE.symm, rfl⟩, by rw [h9]; exact hP, hD⟩, hS.F h9⟩) hS.2.2 dX9_setCapacity_59
  ·
    have hE := hE.trans (if_pos c_2)
    refine lv_aload_n hx hb dX9_setCapacity_14 rfl (lv_at hl 0 rfl) ?_
    refine lv_iconst (v := 1) hx hb dX9_setCapacity_15 (by decide) ?_
    refine mj_i (wr := []) (va_runV (As := [.int (1 : Int32)]) (rest := []) ⟨hx, hb, hml, hown, hts⟩ (c_X9_fails l dC dI cyI H.size q0 q1 q2 q3 q4 q5 q6 svc tl (0 : Int32) mm mr ati ors zs zv zt zp zm zk (1 : Int32)) (cwV 1 hts (gBV b_185 b_186 b_187 b_5 b_188) rfl rfl rfl (by decide +kernel) ⟨Nat.le_of_ble_eq_true rfl, Nat.le_of_ble_eq_true rfl⟩) (prm_v eM_ok he hS hP hD hK (va_free (wc := [(q0, .inr (9, [.ref q1, .ref q2, .int svc, .ref q3, .int tl, .int (0 : Int32), .int mm, .int mr, .ref q4, .int ati, .int ors, .ref q5, .ref q6])), (q1, .inl (cyI, 246, .inl zs)), (q2, .inl (cyI, 984, .inl zv)), (q3, .inl (cyI, 80, .inl zt)), (q4, .inl (cyI, 5, .inl zp)), (q5, .inl (cyI, 40, .inl zm)), (q6, .inl (cyI, 40, .inl zk))]) hD hS hA [0, 1, 2, 3, 4, 5, 6] rfl) 0 rfl rfl rfl) rfl rfl hl.1 rfl (lv_room (Nat.le_of_ble_eq_true rfl)) dX9_setCapacity_16 ⟨Nat.le_of_ble_eq_true rfl, Nat.le_of_ble_eq_true rfl⟩) hP hD hS hA [0, 1, 2, 3, 4, 5, 6] [] rfl rfl (by decide) (by decide) (fun r_13 u_12 H locs hw hP hD hS => ?_)
    obtain ⟨hu_12, rfl⟩ := hw
    have hE := hE.trans (spLet_eq hu_12)
    have hP : va_P (dC, dI) vwCl [(q0, .inr (9, [.ref q1, .ref q2, .int svc, .ref q3, .int tl, .int (u_12.2), .int mm, .int mr, .ref q4, .int ati, .int ors, .ref q5, .ref q6])), (q1, .inl (cyI, 246, .inl zs)), (q2, .inl (cyI, 984, .inl zv)), (q3, .inl (cyI, 80, .inl zt)), (q4, .inl (cyI, 5, .inl zp)), (q5, .inl (cyI, 40, .inl zm)), (q6, .inl (cyI, 40, .inl zk))] H := hP
    have hD : va_D A [(q0, .inr (9, [.ref q1, .ref q2, .int svc, .ref q3, .int tl, .int (u_12.2), .int mm, .int mr, .ref q4, .int ati, .int ors, .ref q5, .ref q6])), (q1, .inl (cyI, 246, .inl zs)), (q2, .inl (cyI, 984, .inl zv)), (q3, .inl (cyI, 80, .inl zt)), (q4, .inl (cyI, 5, .inl zp)), (q5, .inl (cyI, 40, .inl zm)), (q6, .inl (cyI, 40, .inl zk))] := hD
    exact W.iret (v := (u_12.1)) hx hb hr (fun t h9 hW => ⟨⟨(u_12.1), (((u_12.1), svc, (u_12.2), zs, zv) : Int32 × Int32 × Int32 × (Nat → Int32) × (Nat → Int32)), rfl, ⟨hE.symm, rfl⟩, by rw [h9]; exact hP, hD⟩, hS.F h9⟩) hS.2.2 dX9_setCapacity_19
def m_capacity (zs : Nat → Int32) (ta : Int32) (ro : Int32) (co : Int32) : Int32 × Int32 :=
  spLet (m_isPlace ta ro co) (fun r_1 => if r_1 = 0 then (spLet (m_fails (1 : Int32)) (fun u_3 => ((u_3.1), (u_3.2)))) else (spLet (m_valueAt_p zs ta ro co) (fun r_5 => (r_5.toInt32, (0 : Int32)))))
set_option maxHeartbeats 1000000 in
set_option maxRecDepth 100000 in
theorem c_X9_capacity (l : Launch) (dC : Nat → ClassId) (dI : Nat → Nat → Nat) (cyI : ClassId) (sz : Nat) (q0 : Nat) (q1 : Nat) (q2 : Nat) (q3 : Nat) (q4 : Nat) (q5 : Nat) (q6 : Nat) (svc : Int32) (tl : Int32) (cde : Int32) (mm : Int32) (mr : Int32) (ati : Int32) (ors : Int32) (zs : Nat → Int32) (zv : Nat → Int32) (zt : Nat → Int32) (zp : Nat → Int32) (zm : Nat → Int32) (zk : Nat → Int32) (ta : Int32) (ro : Int32) (co : Int32) : Met l yX9_capacity wqX9_capacity ({ frames := 2, cells := 0, slots := 0, locals := 44 } : Room) (va_Pc [.ref q0, .int ta, .int ro, .int co] (pC (dC, dI) [(q0, .inr (9, [.ref q1, .ref q2, .int svc, .ref q3, .int tl, .int cde, .int mm, .int mr, .ref q4, .int ati, .int ors, .ref q5, .ref q6])), (q1, .inl (cyI, 246, .inl zs)), (q2, .inl (cyI, 984, .inl zv)), (q3, .inl (cyI, 80, .inl zt)), (q4, .inl (cyI, 5, .inl zp)), (q5, .inl (cyI, 40, .inl zm)), (q6, .inl (cyI, 40, .inl zk))] [(cyI, .int)] eM sz)) (va_Qi (fun (r : Int32) (u : Int32 × Int32) => u = (m_capacity zs ta ro co) ∧ r = u.1) (fun (u : Int32 × Int32) t => va_P (dC, dI) vwCl [(q0, .inr (9, [.ref q1, .ref q2, .int svc, .ref q3, .int tl, .int (u.2), .int mm, .int mr, .ref q4, .int ati, .int ors, .ref q5, .ref q6])), (q1, .inl (cyI, 246, .inl zs)), (q2, .inl (cyI, 984, .inl zv)), (q3, .inl (cyI, 80, .inl zt)), (q4, .inl (cyI, 5, .inl zp)), (q5, .inl (cyI, 40, .inl zm)), (q6, .inl (cyI, 40, .inl zk))] t.heap ∧ va_D (va_A [(q0, .inr (9, [.ref q1, .ref q2, .int svc, .ref q3, .int tl, .int cde, .int mm, .int mr, .ref q4, .int ati, .int ors, .ref q5, .ref q6])), (q1, .inl (cyI, 246, .inl zs)), (q2, .inl (cyI, 984, .inl zv)), (q3, .inl (cyI, 80, .inl zt)), (q4, .inl (cyI, 5, .inl zp)), (q5, .inl (cyI, 40, .inl zm)), (q6, .inl (cyI, 40, .inl zk))] sz) [(q0, .inr (9, [.ref q1, .ref q2, .int svc, .ref q3, .int tl, .int (u.2), .int mm, .int mr, .ref q4, .int ati, .int ors, .ref q5, .ref q6])), (q1, .inl (cyI, 246, .inl zs)), (q2, .inl (cyI, 984, .inl zv)), (q3, .inl (cyI, 80, .inl zt)), (q4, .inl (cyI, 5, .inl zp)), (q5, .inl (cyI, 40, .inl zm)), (q6, .inl (cyI, 40, .inl zk))]) (va_A [(q0, .inr (9, [.ref q1, .ref q2, .int svc, .ref q3, .int tl, .int cde, .int mm, .int mr, .ref q4, .int ati, .int ors, .ref q5, .ref q6])), (q1, .inl (cyI, 246, .inl zs)), (q2, .inl (cyI, 984, .inl zv)), (q3, .inl (cyI, 80, .inl zt)), (q4, .inl (cyI, 5, .inl zp)), (q5, .inl (cyI, 40, .inl zm)), (q6, .inl (cyI, 40, .inl zk))] sz)) 0 0 (va_A [(q0, .inr (9, [.ref q1, .ref q2, .int svc, .ref q3, .int tl, .int cde, .int mm, .int mr, .ref q4, .int ati, .int ors, .ref q5, .ref q6])), (q1, .inl (cyI, 246, .inl zs)), (q2, .inl (cyI, 984, .inl zv)), (q3, .inl (cyI, 80, .inl zt)), (q4, .inl (cyI, 5, .inl zp)), (q5, .inl (cyI, 40, .inl zm)), (q6, .inl (cyI, 40, .inl zk))] sz) := by
  refine Met.ofW (cc := cX9_capacity) (maxL := 4) (ret := (some .int)) (by decide) rfl ?_
  intro p e s m args below meth c s₁ B hml hv
  obtain ⟨rfl, hsz, hP, hK, hD0, he⟩ := hv
  have hx := B.exec
  have hb := B.bytes
  have hr := B.returns
  have hts := atoms_spec (ws := wqX9_capacity) B.pre
  have hown : s.vm.findClass RX9 = some m.cls := findClass_of_methodNamed B.named
  have hlocks := B.notSynchronized
  have w_0 := hts (Cond.fieldLink RX9 28 "CraneLimiterModel" "code" "I") (List.mem_cons_of_mem _ b_181)
  have i_X9 : ∀ w ∈ u_ws RX9 TX9 13, w ∈ wqX9_capacity := fun w h => List.mem_cons_of_mem _ (bX9 w h)
  subst hsz
  have hD := hD0.self (sz := s.heap.size)
  generalize hAe : va_A [(q0, .inr (9, [.ref q1, .ref q2, .int svc, .ref q3, .int tl, .int cde, .int mm, .int mr, .ref q4, .int ati, .int ors, .ref q5, .ref q6])), (q1, .inl (cyI, 246, .inl zs)), (q2, .inl (cyI, 984, .inl zv)), (q3, .inl (cyI, 80, .inl zt)), (q4, .inl (cyI, 5, .inl zp)), (q5, .inl (cyI, 40, .inl zm)), (q6, .inl (cyI, 40, .inl zk))] s.heap.size = A at hD he ⊢
  have hA : ∀ q : Nat, s.heap.size ≤ q → A q := fun q h => by rw [← hAe]; exact Or.inr h
  have hS : va_S A s.heap s.heap [] := va_S.rf
  have hP : va_P (dC, dI) vwCl [(q0, .inr (9, [.ref q1, .ref q2, .int svc, .ref q3, .int tl, .int cde, .int mm, .int mr, .ref q4, .int ati, .int ors, .ref q5, .ref q6])), (q1, .inl (cyI, 246, .inl zs)), (q2, .inl (cyI, 984, .inl zv)), (q3, .inl (cyI, 80, .inl zt)), (q4, .inl (cyI, 5, .inl zp)), (q5, .inl (cyI, 40, .inl zm)), (q6, .inl (cyI, 40, .inl zk))] s.heap := hP
  have hl := lv_entry ([.ref q0, .int ta, .int ro, .int co] : List Value) (n := 4) (Nat.le_of_ble_eq_true rfl)
  rw [lg_entry_eq]
  generalize (lg_sl ([.ref q0, .int ta, .int ro, .int co] : List Value) ++ List.replicate (4 - (lg_sl ([.ref q0, .int ta, .int ro, .int co] : List Value)).length) Slot.unset).toArray = ls at hl ⊢
  have hl : lv_has ls 4 [(0, .ref q0), (1, .int ta), (2, .int ro), (3, .int co)] := hl
  have hE : m_capacity zs ta ro co = m_capacity zs ta ro co := rfl
  refine lv_aload_n hx hb dX9_capacity_0 rfl (lv_at hl 0 rfl) ?_
  refine lv_iconst (v := 0) hx hb dX9_capacity_1 (by decide) ?_
  refine va_put (D := (dC, dI)) (ci := 9) (v := .int (0 : Int32)) (ty := .int) (C := RX9) (T := TX9) (N := 13) hx hb hts i_X9 tyX9 tyX9_ok nmX9 hown hK hP hD hS 0 rfl rfl 5 (by decide) w_0 (fun _ h9 => h9) rfl (by decide +kernel) (rfl) (rfl) (Nat.le_of_ble_eq_true rfl) dX9_capacity_2 (fun H locs hP hD hS => ?_)
  have hP : va_P (dC, dI) vwCl [(q0, .inr (9, [.ref q1, .ref q2, .int svc, .ref q3, .int tl, .int (0 : Int32), .int mm, .int mr, .ref q4, .int ati, .int ors, .ref q5, .ref q6])), (q1, .inl (cyI, 246, .inl zs)), (q2, .inl (cyI, 984, .inl zv)), (q3, .inl (cyI, 80, .inl zt)), (q4, .inl (cyI, 5, .inl zp)), (q5, .inl (cyI, 40, .inl zm)), (q6, .inl (cyI, 40, .inl zk))] H := hP
  have hD : va_D A [(q0, .inr (9, [.ref q1, .ref q2, .int svc, .ref q3, .int tl, .int (0 : Int32), .int mm, .int mr, .ref q4, .int ati, .int ors, .ref q5, .ref q6])), (q1, .inl (cyI, 246, .inl zs)), (q2, .inl (cyI, 984, .inl zv)), (q3, .inl (cyI, 80, .inl zt)), (q4, .inl (cyI, 5, .inl zp)), (q5, .inl (cyI, 40, .inl zm)), (q6, .inl (cyI, 40, .inl zk))] := hD
  refine lv_iload_n hx hb dX9_capacity_5 rfl (lv_at hl 1 rfl) ?_
  refine lv_iload_n hx hb dX9_capacity_6 rfl (lv_at hl 2 rfl) ?_
  refine lv_iload_n hx hb dX9_capacity_7 rfl (lv_at hl 3 rfl) ?_
  refine vp_callSi (W.runS (As := [.int ta, .int ro, .int co]) (rest := []) ⟨hx, hb, hml, hown, hts⟩ (c_X9_isPlace l dC dI cyI ta ro co) (va_cwS 3 hts (gBS b_235 b_236 b_5 b_237) rfl rfl rfl (by decide +kernel) ⟨Nat.le_of_ble_eq_true rfl, Nat.le_of_ble_eq_true rfl⟩) (pre_s eM_ok he hS (hP.sub (ws' := []) [] rfl) (hK.sub (tys' := []) [] rfl)) rfl rfl hl.1 rfl (lv_room (Nat.le_of_ble_eq_true rfl)) dX9_capacity_8 ⟨Nat.zero_le _, Nat.zero_le _⟩) (fun r_1 hr_1 => ?_)
  obtain ⟨hr_1, hbr_1⟩ := hr_1
  have hE := hE.trans (spLet_eq hr_1)
  refine lv_if_eq (tgt := 25) hx hb dX9_capacity_11 (by decide) (fun c_2 => ?_) (fun c_2 => ?_)
  ·
    have hE := hE.trans (if_pos c_2)
    refine lv_aload_n hx hb dX9_capacity_25 rfl (lv_at hl 0 rfl) ?_
    refine lv_iconst (v := 1) hx hb dX9_capacity_26 (by decide) ?_
    refine mj_i (wr := []) (va_runV (As := [.int (1 : Int32)]) (rest := []) ⟨hx, hb, hml, hown, hts⟩ (c_X9_fails l dC dI cyI H.size q0 q1 q2 q3 q4 q5 q6 svc tl (0 : Int32) mm mr ati ors zs zv zt zp zm zk (1 : Int32)) (cwV 1 hts (gBV b_185 b_186 b_187 b_5 b_188) rfl rfl rfl (by decide +kernel) ⟨Nat.le_of_ble_eq_true rfl, Nat.le_of_ble_eq_true rfl⟩) (prm_v eM_ok he hS hP hD hK (va_free (wc := [(q0, .inr (9, [.ref q1, .ref q2, .int svc, .ref q3, .int tl, .int (0 : Int32), .int mm, .int mr, .ref q4, .int ati, .int ors, .ref q5, .ref q6])), (q1, .inl (cyI, 246, .inl zs)), (q2, .inl (cyI, 984, .inl zv)), (q3, .inl (cyI, 80, .inl zt)), (q4, .inl (cyI, 5, .inl zp)), (q5, .inl (cyI, 40, .inl zm)), (q6, .inl (cyI, 40, .inl zk))]) hD hS hA [0, 1, 2, 3, 4, 5, 6] rfl) 0 rfl rfl rfl) rfl rfl hl.1 rfl (lv_room (Nat.le_of_ble_eq_true rfl)) dX9_capacity_27 ⟨Nat.le_of_ble_eq_true rfl, Nat.le_of_ble_eq_true rfl⟩) hP hD hS hA [0, 1, 2, 3, 4, 5, 6] [] rfl rfl (by decide) (by decide) (fun r_4 u_3 H locs hw hP hD hS => ?_)
    obtain ⟨hu_3, rfl⟩ := hw
    have hE := hE.trans (spLet_eq hu_3)
    have hP : va_P (dC, dI) vwCl [(q0, .inr (9, [.ref q1, .ref q2, .int svc, .ref q3, .int tl, .int (u_3.2), .int mm, .int mr, .ref q4, .int ati, .int ors, .ref q5, .ref q6])), (q1, .inl (cyI, 246, .inl zs)), (q2, .inl (cyI, 984, .inl zv)), (q3, .inl (cyI, 80, .inl zt)), (q4, .inl (cyI, 5, .inl zp)), (q5, .inl (cyI, 40, .inl zm)), (q6, .inl (cyI, 40, .inl zk))] H := hP
    have hD : va_D A [(q0, .inr (9, [.ref q1, .ref q2, .int svc, .ref q3, .int tl, .int (u_3.2), .int mm, .int mr, .ref q4, .int ati, .int ors, .ref q5, .ref q6])), (q1, .inl (cyI, 246, .inl zs)), (q2, .inl (cyI, 984, .inl zv)), (q3, .inl (cyI, 80, .inl zt)), (q4, .inl (cyI, 5, .inl zp)), (q5, .inl (cyI, 40, .inl zm)), (q6, .inl (cyI, 40, .inl zk))] := hD
    exact W.iret (v := (u_3.1)) hx hb hr (fun t h9 hW => ⟨⟨(u_3.1), (((u_3.1), (u_3.2)) : Int32 × Int32), rfl, ⟨hE.symm, rfl⟩, by rw [h9]; exact hP, hD⟩, hS.F h9⟩) hS.2.2 dX9_capacity_30
  ·
    have hE := hE.trans (if_neg c_2)
    have ht := isPlace_n hr_1 (by assumption)
    have ht2 := ht.2.1
    have ht3 := ht.2.2.2.1
    have ht4 := ht.2.2.2.2.2
    refine lv_aload_n hx hb dX9_capacity_14 rfl (lv_at hl 0 rfl) ?_
    refine lv_iload_n hx hb dX9_capacity_15 rfl (lv_at hl 1 rfl) ?_
    refine lv_iload_n hx hb dX9_capacity_16 rfl (lv_at hl 2 rfl) ?_
    refine lv_iload_n hx hb dX9_capacity_17 rfl (lv_at hl 3 rfl) ?_
    refine vp_callSl (W.runV (As := [.int ta, .int ro, .int co]) (rest := []) ⟨hx, hb, hml, hown, hts⟩ (c_X9_valueAt_p l dC dI cyI q0 q1 q2 q3 q4 q5 q6 svc tl (0 : Int32) mm mr ati ors zs zv zt zp zm zk ta ro co ht.1 ht2 ht.2.2.1 ht3 ht.2.2.2.2.1 ht4) (cwV 3 hts (gBV b_285 b_286 b_287 b_5 b_288) rfl rfl rfl (by decide +kernel) ⟨Nat.le_of_ble_eq_true rfl, Nat.le_of_ble_eq_true rfl⟩) (pre_v eM_ok he hS hP hK 0 rfl rfl rfl) rfl rfl hl.1 rfl (lv_room (Nat.le_of_ble_eq_true rfl)) dX9_capacity_18 ⟨Nat.zero_le _, Nat.zero_le _⟩) (fun r_5 hr_5 => ?_)
    have hE := hE.trans (spLet_eq hr_5)
    refine lv_l2i hx hb dX9_capacity_21 rfl ?_
    refine lv_goto (tgt := 30) hx hb dX9_capacity_22 (by decide) ?_
    exact W.iret (v := r_5.toInt32) hx hb hr (fun t h9 hW => ⟨⟨r_5.toInt32, ((r_5.toInt32, (0 : Int32)) : Int32 × Int32), rfl, ⟨hE.symm, rfl⟩, by rw [h9]; exact hP, hD⟩, hS.F h9⟩) hS.2.2 dX9_capacity_30
def m_setTare (svc : Int32) (zs : Nat → Int32) (zv : Nat → Int32) (ma : Int32) : Int32 × Int32 × Int32 × (Nat → Int32) × (Nat → Int32) :=
  spLet (m_in ma (0 : Int32) (2000 : Int32)) (fun r_1 => if r_1 = 0 then (spLet (m_fails (1 : Int32)) (fun u_3 => ((u_3.1), svc, (u_3.2), zs, zv))) else (spLet (m_change svc zs zv 5 ma) (fun u_5 => ((u_5.1), (u_5.2.1), (0 : Int32), (u_5.2.2.1), (u_5.2.2.2)))))
set_option maxHeartbeats 1000000 in
set_option maxRecDepth 100000 in
theorem c_X9_setTare (l : Launch) (dC : Nat → ClassId) (dI : Nat → Nat → Nat) (cyI : ClassId) (sz : Nat) (q0 : Nat) (q1 : Nat) (q2 : Nat) (q3 : Nat) (q4 : Nat) (q5 : Nat) (q6 : Nat) (svc : Int32) (tl : Int32) (cde : Int32) (mm : Int32) (mr : Int32) (ati : Int32) (ors : Int32) (zs : Nat → Int32) (zv : Nat → Int32) (zt : Nat → Int32) (zp : Nat → Int32) (zm : Nat → Int32) (zk : Nat → Int32) (ma : Int32) (hsv : svc = nI svc.toNatClampNeg) (hs4 : svc.toNatClampNeg ≤ 4) (hG : mG zs) : Met l yX9_setTare wqX9_setTare ({ frames := 2, cells := 0, slots := 0, locals := 44 } : Room) (va_Pc [.ref q0, .int ma] (pC (dC, dI) [(q0, .inr (9, [.ref q1, .ref q2, .int svc, .ref q3, .int tl, .int cde, .int mm, .int mr, .ref q4, .int ati, .int ors, .ref q5, .ref q6])), (q1, .inl (cyI, 246, .inl zs)), (q2, .inl (cyI, 984, .inl zv)), (q3, .inl (cyI, 80, .inl zt)), (q4, .inl (cyI, 5, .inl zp)), (q5, .inl (cyI, 40, .inl zm)), (q6, .inl (cyI, 40, .inl zk))] [(cyI, .int)] eM sz)) (va_Qi (fun (r : Int32) (u : Int32 × Int32 × Int32 × (Nat → Int32) × (Nat → Int32)) => u = (m_setTare svc zs zv ma) ∧ r = u.1) (fun (u : Int32 × Int32 × Int32 × (Nat → Int32) × (Nat → Int32)) t => va_P (dC, dI) vwCl [(q0, .inr (9, [.ref q1, .ref q2, .int (u.2.1), .ref q3, .int tl, .int (u.2.2.1), .int mm, .int mr, .ref q4, .int ati, .int ors, .ref q5, .ref q6])), (q1, .inl (cyI, 246, .inl (u.2.2.2.1))), (q2, .inl (cyI, 984, .inl (u.2.2.2.2))), (q3, .inl (cyI, 80, .inl zt)), (q4, .inl (cyI, 5, .inl zp)), (q5, .inl (cyI, 40, .inl zm)), (q6, .inl (cyI, 40, .inl zk))] t.heap ∧ va_D (va_A [(q0, .inr (9, [.ref q1, .ref q2, .int svc, .ref q3, .int tl, .int cde, .int mm, .int mr, .ref q4, .int ati, .int ors, .ref q5, .ref q6])), (q1, .inl (cyI, 246, .inl zs)), (q2, .inl (cyI, 984, .inl zv)), (q3, .inl (cyI, 80, .inl zt)), (q4, .inl (cyI, 5, .inl zp)), (q5, .inl (cyI, 40, .inl zm)), (q6, .inl (cyI, 40, .inl zk))] sz) [(q0, .inr (9, [.ref q1, .ref q2, .int (u.2.1), .ref q3, .int tl, .int (u.2.2.1), .int mm, .int mr, .ref q4, .int ati, .int ors, .ref q5, .ref q6])), (q1, .inl (cyI, 246, .inl (u.2.2.2.1))), (q2, .inl (cyI, 984, .inl (u.2.2.2.2))), (q3, .inl (cyI, 80, .inl zt)), (q4, .inl (cyI, 5, .inl zp)), (q5, .inl (cyI, 40, .inl zm)), (q6, .inl (cyI, 40, .inl zk))]) (va_A [(q0, .inr (9, [.ref q1, .ref q2, .int svc, .ref q3, .int tl, .int cde, .int mm, .int mr, .ref q4, .int ati, .int ors, .ref q5, .ref q6])), (q1, .inl (cyI, 246, .inl zs)), (q2, .inl (cyI, 984, .inl zv)), (q3, .inl (cyI, 80, .inl zt)), (q4, .inl (cyI, 5, .inl zp)), (q5, .inl (cyI, 40, .inl zm)), (q6, .inl (cyI, 40, .inl zk))] sz)) 0 0 (va_A [(q0, .inr (9, [.ref q1, .ref q2, .int svc, .ref q3, .int tl, .int cde, .int mm, .int mr, .ref q4, .int ati, .int ors, .ref q5, .ref q6])), (q1, .inl (cyI, 246, .inl zs)), (q2, .inl (cyI, 984, .inl zv)), (q3, .inl (cyI, 80, .inl zt)), (q4, .inl (cyI, 5, .inl zp)), (q5, .inl (cyI, 40, .inl zm)), (q6, .inl (cyI, 40, .inl zk))] sz) := by
  refine Met.ofW (cc := cX9_setTare) (maxL := 2) (ret := (some .int)) (by decide) rfl ?_
  intro p e s m args below meth c s₁ B hml hv
  obtain ⟨rfl, hsz, hP, hK, hD0, he⟩ := hv
  have hx := B.exec
  have hb := B.bytes
  have hr := B.returns
  have hts := atoms_spec (ws := wqX9_setTare) B.pre
  have hown : s.vm.findClass RX9 = some m.cls := findClass_of_methodNamed B.named
  have hlocks := B.notSynchronized
  have w_0 := hts (Cond.fieldLink RX9 28 "CraneLimiterModel" "code" "I") (List.mem_cons_of_mem _ b_181)
  have i_X9 : ∀ w ∈ u_ws RX9 TX9 13, w ∈ wqX9_setTare := fun w h => List.mem_cons_of_mem _ (bX9 w h)
  subst hsz
  have hD := hD0.self (sz := s.heap.size)
  generalize hAe : va_A [(q0, .inr (9, [.ref q1, .ref q2, .int svc, .ref q3, .int tl, .int cde, .int mm, .int mr, .ref q4, .int ati, .int ors, .ref q5, .ref q6])), (q1, .inl (cyI, 246, .inl zs)), (q2, .inl (cyI, 984, .inl zv)), (q3, .inl (cyI, 80, .inl zt)), (q4, .inl (cyI, 5, .inl zp)), (q5, .inl (cyI, 40, .inl zm)), (q6, .inl (cyI, 40, .inl zk))] s.heap.size = A at hD he ⊢
  have hA : ∀ q : Nat, s.heap.size ≤ q → A q := fun q h => by rw [← hAe]; exact Or.inr h
  have hS : va_S A s.heap s.heap [] := va_S.rf
  have hP : va_P (dC, dI) vwCl [(q0, .inr (9, [.ref q1, .ref q2, .int svc, .ref q3, .int tl, .int cde, .int mm, .int mr, .ref q4, .int ati, .int ors, .ref q5, .ref q6])), (q1, .inl (cyI, 246, .inl zs)), (q2, .inl (cyI, 984, .inl zv)), (q3, .inl (cyI, 80, .inl zt)), (q4, .inl (cyI, 5, .inl zp)), (q5, .inl (cyI, 40, .inl zm)), (q6, .inl (cyI, 40, .inl zk))] s.heap := hP
  have hl := lv_entry ([.ref q0, .int ma] : List Value) (n := 2) (Nat.le_of_ble_eq_true rfl)
  rw [lg_entry_eq]
  generalize (lg_sl ([.ref q0, .int ma] : List Value) ++ List.replicate (2 - (lg_sl ([.ref q0, .int ma] : List Value)).length) Slot.unset).toArray = ls at hl ⊢
  have hl : lv_has ls 2 [(0, .ref q0), (1, .int ma)] := hl
  have hE : m_setTare svc zs zv ma = m_setTare svc zs zv ma := rfl
  refine lv_aload_n hx hb dX9_setTare_0 rfl (lv_at hl 0 rfl) ?_
  refine lv_iconst (v := 0) hx hb dX9_setTare_1 (by decide) ?_
  refine va_put (D := (dC, dI)) (ci := 9) (v := .int (0 : Int32)) (ty := .int) (C := RX9) (T := TX9) (N := 13) hx hb hts i_X9 tyX9 tyX9_ok nmX9 hown hK hP hD hS 0 rfl rfl 5 (by decide) w_0 (fun _ h9 => h9) rfl (by decide +kernel) (rfl) (rfl) (Nat.le_of_ble_eq_true rfl) dX9_setTare_2 (fun H locs hP hD hS => ?_)
  have hP : va_P (dC, dI) vwCl [(q0, .inr (9, [.ref q1, .ref q2, .int svc, .ref q3, .int tl, .int (0 : Int32), .int mm, .int mr, .ref q4, .int ati, .int ors, .ref q5, .ref q6])), (q1, .inl (cyI, 246, .inl zs)), (q2, .inl (cyI, 984, .inl zv)), (q3, .inl (cyI, 80, .inl zt)), (q4, .inl (cyI, 5, .inl zp)), (q5, .inl (cyI, 40, .inl zm)), (q6, .inl (cyI, 40, .inl zk))] H := hP
  have hD : va_D A [(q0, .inr (9, [.ref q1, .ref q2, .int svc, .ref q3, .int tl, .int (0 : Int32), .int mm, .int mr, .ref q4, .int ati, .int ors, .ref q5, .ref q6])), (q1, .inl (cyI, 246, .inl zs)), (q2, .inl (cyI, 984, .inl zv)), (q3, .inl (cyI, 80, .inl zt)), (q4, .inl (cyI, 5, .inl zp)), (q5, .inl (cyI, 40, .inl zm)), (q6, .inl (cyI, 40, .inl zk))] := hD
  refine lv_iload_n hx hb dX9_setTare_5 rfl (lv_at hl 1 rfl) ?_
  refine lv_iconst (v := 0) hx hb dX9_setTare_6 (by decide) ?_
  refine lv_sipush (v := 2000) hx hb dX9_setTare_7 (by decide) ?_
  refine vp_callSi (W.runS (As := [.int ma, .int (0 : Int32), .int (2000 : Int32)]) (rest := []) ⟨hx, hb, hml, hown, hts⟩ (c_X9_in l dC dI cyI ma (0 : Int32) (2000 : Int32)) (va_cwS 3 hts (gBS b_182 b_183 b_5 b_184) rfl rfl rfl (by decide +kernel) ⟨Nat.le_of_ble_eq_true rfl, Nat.le_of_ble_eq_true rfl⟩) (pre_s eM_ok he hS (hP.sub (ws' := []) [] rfl) (hK.sub (tys' := []) [] rfl)) rfl rfl hl.1 rfl (lv_room (Nat.le_of_ble_eq_true rfl)) dX9_setTare_10 ⟨Nat.zero_le _, Nat.zero_le _⟩) (fun r_1 hr_1 => ?_)
  obtain ⟨hr_1, hbr_1⟩ := hr_1
  have hE := hE.trans (spLet_eq hr_1)
  refine lv_if_eq (tgt := 25) hx hb dX9_setTare_13 (by decide) (fun c_2 => ?_) (fun c_2 => ?_)
  ·
    have hE := hE.trans (if_pos c_2)
    refine lv_aload_n hx hb dX9_setTare_25 rfl (lv_at hl 0 rfl) ?_
    refine lv_iconst (v := 1) hx hb dX9_setTare_26 (by decide) ?_
    refine mj_i (wr := []) (va_runV (As := [.int (1 : Int32)]) (rest := []) ⟨hx, hb, hml, hown, hts⟩ (c_X9_fails l dC dI cyI H.size q0 q1 q2 q3 q4 q5 q6 svc tl (0 : Int32) mm mr ati ors zs zv zt zp zm zk (1 : Int32)) (cwV 1 hts (gBV b_185 b_186 b_187 b_5 b_188) rfl rfl rfl (by decide +kernel) ⟨Nat.le_of_ble_eq_true rfl, Nat.le_of_ble_eq_true rfl⟩) (prm_v eM_ok he hS hP hD hK (va_free (wc := [(q0, .inr (9, [.ref q1, .ref q2, .int svc, .ref q3, .int tl, .int (0 : Int32), .int mm, .int mr, .ref q4, .int ati, .int ors, .ref q5, .ref q6])), (q1, .inl (cyI, 246, .inl zs)), (q2, .inl (cyI, 984, .inl zv)), (q3, .inl (cyI, 80, .inl zt)), (q4, .inl (cyI, 5, .inl zp)), (q5, .inl (cyI, 40, .inl zm)), (q6, .inl (cyI, 40, .inl zk))]) hD hS hA [0, 1, 2, 3, 4, 5, 6] rfl) 0 rfl rfl rfl) rfl rfl hl.1 rfl (lv_room (Nat.le_of_ble_eq_true rfl)) dX9_setTare_27 ⟨Nat.le_of_ble_eq_true rfl, Nat.le_of_ble_eq_true rfl⟩) hP hD hS hA [0, 1, 2, 3, 4, 5, 6] [] rfl rfl (by decide) (by decide) (fun r_4 u_3 H locs hw hP hD hS => ?_)
    obtain ⟨hu_3, rfl⟩ := hw
    have hE := hE.trans (spLet_eq hu_3)
    have hP : va_P (dC, dI) vwCl [(q0, .inr (9, [.ref q1, .ref q2, .int svc, .ref q3, .int tl, .int (u_3.2), .int mm, .int mr, .ref q4, .int ati, .int ors, .ref q5, .ref q6])), (q1, .inl (cyI, 246, .inl zs)), (q2, .inl (cyI, 984, .inl zv)), (q3, .inl (cyI, 80, .inl zt)), (q4, .inl (cyI, 5, .inl zp)), (q5, .inl (cyI, 40, .inl zm)), (q6, .inl (cyI, 40, .inl zk))] H := hP
    have hD : va_D A [(q0, .inr (9, [.ref q1, .ref q2, .int svc, .ref q3, .int tl, .int (u_3.2), .int mm, .int mr, .ref q4, .int ati, .int ors, .ref q5, .ref q6])), (q1, .inl (cyI, 246, .inl zs)), (q2, .inl (cyI, 984, .inl zv)), (q3, .inl (cyI, 80, .inl zt)), (q4, .inl (cyI, 5, .inl zp)), (q5, .inl (cyI, 40, .inl zm)), (q6, .inl (cyI, 40, .inl zk))] := hD
    exact W.iret (v := (u_3.1)) hx hb hr (fun t h9 hW => ⟨⟨(u_3.1), (((u_3.1), svc, (u_3.2), zs, zv) : Int32 × Int32 × Int32 × (Nat → Int32) × (Nat → Int32)), rfl, ⟨hE.symm, rfl⟩, by rw [h9]; exact hP, hD⟩, hS.F h9⟩) hS.2.2 dX9_setTare_30
  ·
    have hE := hE.trans (if_neg c_2)
    refine lv_aload_n hx hb dX9_setTare_16 rfl (lv_at hl 0 rfl) ?_
    refine lv_iconst (v := 5) hx hb dX9_setTare_17 (by decide) ?_
    refine lv_iload_n hx hb dX9_setTare_18 rfl (lv_at hl 1 rfl) ?_
    refine mj_i (wr := []) (va_runV (As := [.int (5 : Int32), .int ma]) (rest := []) ⟨hx, hb, hml, hown, hts⟩ (c_X9_change l dC dI cyI H.size q0 q1 q2 q3 q4 q5 q6 svc tl (0 : Int32) mm mr ati ors zs zv zt zp zm zk 5 ma hsv hs4 (by omega)) (cwV 2 hts (gBV b_189 b_190 b_191 b_5 b_192) rfl rfl rfl (by decide +kernel) ⟨Nat.le_of_ble_eq_true rfl, Nat.le_of_ble_eq_true rfl⟩) (prm_v eM_ok he hS hP hD hK (va_free (wc := [(q0, .inr (9, [.ref q1, .ref q2, .int svc, .ref q3, .int tl, .int (0 : Int32), .int mm, .int mr, .ref q4, .int ati, .int ors, .ref q5, .ref q6])), (q1, .inl (cyI, 246, .inl zs)), (q2, .inl (cyI, 984, .inl zv)), (q3, .inl (cyI, 80, .inl zt)), (q4, .inl (cyI, 5, .inl zp)), (q5, .inl (cyI, 40, .inl zm)), (q6, .inl (cyI, 40, .inl zk))]) hD hS hA [0, 1, 2, 3, 4, 5, 6] rfl) 0 rfl rfl rfl) rfl rfl hl.1 rfl (lv_room (Nat.le_of_ble_eq_true rfl)) dX9_setTare_19 ⟨Nat.le_of_ble_eq_true rfl, Nat.le_of_ble_eq_true rfl⟩) hP hD hS hA [0, 1, 2, 3, 4, 5, 6] [] rfl rfl (by decide) (by decide) (fun r_6 u_5 H locs hw hP hD hS => ?_)
    obtain ⟨hu_5, rfl⟩ := hw
    have hE := hE.trans (spLet_eq hu_5)
    have hP : va_P (dC, dI) vwCl [(q0, .inr (9, [.ref q1, .ref q2, .int (u_5.2.1), .ref q3, .int tl, .int (0 : Int32), .int mm, .int mr, .ref q4, .int ati, .int ors, .ref q5, .ref q6])), (q1, .inl (cyI, 246, .inl (u_5.2.2.1))), (q2, .inl (cyI, 984, .inl (u_5.2.2.2))), (q3, .inl (cyI, 80, .inl zt)), (q4, .inl (cyI, 5, .inl zp)), (q5, .inl (cyI, 40, .inl zm)), (q6, .inl (cyI, 40, .inl zk))] H := hP
    have hD : va_D A [(q0, .inr (9, [.ref q1, .ref q2, .int (u_5.2.1), .ref q3, .int tl, .int (0 : Int32), .int mm, .int mr, .ref q4, .int ati, .int ors, .ref q5, .ref q6])), (q1, .inl (cyI, 246, .inl (u_5.2.2.1))), (q2, .inl (cyI, 984, .inl (u_5.2.2.2))), (q3, .inl (cyI, 80, .inl zt)), (q4, .inl (cyI, 5, .inl zp)), (q5, .inl (cyI, 40, .inl zm)), (q6, .inl (cyI, 40, .inl zk))] := hD
    refine lv_goto (tgt := 30) hx hb dX9_setTare_22 (by decide) ?_
    exact W.iret (v := (u_5.1)) hx hb hr (fun t h9 hW => ⟨⟨(u_5.1), (((u_5.1), (u_5.2.1), (0 : Int32), (u_5.2.2.1), (u_5.2.2.2)) : Int32 × Int32 × Int32 × (Nat → Int32) × (Nat → Int32)), rfl, ⟨hE.symm, rfl⟩, by rw [h9]; exact hP, hD⟩, hS.F h9⟩) hS.2.2 dX9_setTare_30
def m_bypass (svc : Int32) (zs : Nat → Int32) (zv : Nat → Int32) (tk : Int32) : Int32 × Int32 × Int32 × (Nat → Int32) × (Nat → Int32) :=
  spLet (m_in tk (0 : Int32) (1000 : Int32)) (fun r_1 => if r_1 = 0 then (spLet (m_fails (1 : Int32)) (fun u_3 => ((u_3.1), svc, (u_3.2), zs, zv))) else (spLet (m_change svc zs zv 9 tk) (fun u_5 => ((u_5.1), (u_5.2.1), (0 : Int32), (u_5.2.2.1), (u_5.2.2.2)))))
set_option maxHeartbeats 1000000 in
set_option maxRecDepth 100000 in
theorem c_X9_bypass (l : Launch) (dC : Nat → ClassId) (dI : Nat → Nat → Nat) (cyI : ClassId) (sz : Nat) (q0 : Nat) (q1 : Nat) (q2 : Nat) (q3 : Nat) (q4 : Nat) (q5 : Nat) (q6 : Nat) (svc : Int32) (tl : Int32) (cde : Int32) (mm : Int32) (mr : Int32) (ati : Int32) (ors : Int32) (zs : Nat → Int32) (zv : Nat → Int32) (zt : Nat → Int32) (zp : Nat → Int32) (zm : Nat → Int32) (zk : Nat → Int32) (tk : Int32) (hsv : svc = nI svc.toNatClampNeg) (hs4 : svc.toNatClampNeg ≤ 4) (hG : mG zs) : Met l yX9_bypass wqX9_bypass ({ frames := 2, cells := 0, slots := 0, locals := 44 } : Room) (va_Pc [.ref q0, .int tk] (pC (dC, dI) [(q0, .inr (9, [.ref q1, .ref q2, .int svc, .ref q3, .int tl, .int cde, .int mm, .int mr, .ref q4, .int ati, .int ors, .ref q5, .ref q6])), (q1, .inl (cyI, 246, .inl zs)), (q2, .inl (cyI, 984, .inl zv)), (q3, .inl (cyI, 80, .inl zt)), (q4, .inl (cyI, 5, .inl zp)), (q5, .inl (cyI, 40, .inl zm)), (q6, .inl (cyI, 40, .inl zk))] [(cyI, .int)] eM sz)) (va_Qi (fun (r : Int32) (u : Int32 × Int32 × Int32 × (Nat → Int32) × (Nat → Int32)) => u = (m_bypass svc zs zv tk) ∧ r = u.1) (fun (u : Int32 × Int32 × Int32 × (Nat → Int32) × (Nat → Int32)) t => va_P (dC, dI) vwCl [(q0, .inr (9, [.ref q1, .ref q2, .int (u.2.1), .ref q3, .int tl, .int (u.2.2.1), .int mm, .int mr, .ref q4, .int ati, .int ors, .ref q5, .ref q6])), (q1, .inl (cyI, 246, .inl (u.2.2.2.1))), (q2, .inl (cyI, 984, .inl (u.2.2.2.2))), (q3, .inl (cyI, 80, .inl zt)), (q4, .inl (cyI, 5, .inl zp)), (q5, .inl (cyI, 40, .inl zm)), (q6, .inl (cyI, 40, .inl zk))] t.heap ∧ va_D (va_A [(q0, .inr (9, [.ref q1, .ref q2, .int svc, .ref q3, .int tl, .int cde, .int mm, .int mr, .ref q4, .int ati, .int ors, .ref q5, .ref q6])), (q1, .inl (cyI, 246, .inl zs)), (q2, .inl (cyI, 984, .inl zv)), (q3, .inl (cyI, 80, .inl zt)), (q4, .inl (cyI, 5, .inl zp)), (q5, .inl (cyI, 40, .inl zm)), (q6, .inl (cyI, 40, .inl zk))] sz) [(q0, .inr (9, [.ref q1, .ref q2, .int (u.2.1), .ref q3, .int tl, .int (u.2.2.1), .int mm, .int mr, .ref q4, .int ati, .int ors, .ref q5, .ref q6])), (q1, .inl (cyI, 246, .inl (u.2.2.2.1))), (q2, .inl (cyI, 984, .inl (u.2.2.2.2))), (q3, .inl (cyI, 80, .inl zt)), (q4, .inl (cyI, 5, .inl zp)), (q5, .inl (cyI, 40, .inl zm)), (q6, .inl (cyI, 40, .inl zk))]) (va_A [(q0, .inr (9, [.ref q1, .ref q2, .int svc, .ref q3, .int tl, .int cde, .int mm, .int mr, .ref q4, .int ati, .int ors, .ref q5, .ref q6])), (q1, .inl (cyI, 246, .inl zs)), (q2, .inl (cyI, 984, .inl zv)), (q3, .inl (cyI, 80, .inl zt)), (q4, .inl (cyI, 5, .inl zp)), (q5, .inl (cyI, 40, .inl zm)), (q6, .inl (cyI, 40, .inl zk))] sz)) 0 0 (va_A [(q0, .inr (9, [.ref q1, .ref q2, .int svc, .ref q3, .int tl, .int cde, .int mm, .int mr, .ref q4, .int ati, .int ors, .ref q5, .ref q6])), (q1, .inl (cyI, 246, .inl zs)), (q2, .inl (cyI, 984, .inl zv)), (q3, .inl (cyI, 80, .inl zt)), (q4, .inl (cyI, 5, .inl zp)), (q5, .inl (cyI, 40, .inl zm)), (q6, .inl (cyI, 40, .inl zk))] sz) := by
  refine Met.ofW (cc := cX9_bypass) (maxL := 2) (ret := (some .int)) (by decide) rfl ?_
  intro p e s m args below meth c s₁ B hml hv
  obtain ⟨rfl, hsz, hP, hK, hD0, he⟩ := hv
  have hx := B.exec
  have hb := B.bytes
  have hr := B.returns
  have hts := atoms_spec (ws := wqX9_bypass) B.pre
  have hown : s.vm.findClass RX9 = some m.cls := findClass_of_methodNamed B.named
  have hlocks := B.notSynchronized
  have w_0 := hts (Cond.fieldLink RX9 28 "CraneLimiterModel" "code" "I") (List.mem_cons_of_mem _ b_181)
  have i_X9 : ∀ w ∈ u_ws RX9 TX9 13, w ∈ wqX9_bypass := fun w h => List.mem_cons_of_mem _ (bX9 w h)
  subst hsz
  have hD := hD0.self (sz := s.heap.size)
  generalize hAe : va_A [(q0, .inr (9, [.ref q1, .ref q2, .int svc, .ref q3, .int tl, .int cde, .int mm, .int mr, .ref q4, .int ati, .int ors, .ref q5, .ref q6])), (q1, .inl (cyI, 246, .inl zs)), (q2, .inl (cyI, 984, .inl zv)), (q3, .inl (cyI, 80, .inl zt)), (q4, .inl (cyI, 5, .inl zp)), (q5, .inl (cyI, 40, .inl zm)), (q6, .inl (cyI, 40, .inl zk))] s.heap.size = A at hD he ⊢
  have hA : ∀ q : Nat, s.heap.size ≤ q → A q := fun q h => by rw [← hAe]; exact Or.inr h
  have hS : va_S A s.heap s.heap [] := va_S.rf
  have hP : va_P (dC, dI) vwCl [(q0, .inr (9, [.ref q1, .ref q2, .int svc, .ref q3, .int tl, .int cde, .int mm, .int mr, .ref q4, .int ati, .int ors, .ref q5, .ref q6])), (q1, .inl (cyI, 246, .inl zs)), (q2, .inl (cyI, 984, .inl zv)), (q3, .inl (cyI, 80, .inl zt)), (q4, .inl (cyI, 5, .inl zp)), (q5, .inl (cyI, 40, .inl zm)), (q6, .inl (cyI, 40, .inl zk))] s.heap := hP
  have hl := lv_entry ([.ref q0, .int tk] : List Value) (n := 2) (Nat.le_of_ble_eq_true rfl)
  rw [lg_entry_eq]
  generalize (lg_sl ([.ref q0, .int tk] : List Value) ++ List.replicate (2 - (lg_sl ([.ref q0, .int tk] : List Value)).length) Slot.unset).toArray = ls at hl ⊢
  have hl : lv_has ls 2 [(0, .ref q0), (1, .int tk)] := hl
  have hE : m_bypass svc zs zv tk = m_bypass svc zs zv tk := rfl
  refine lv_aload_n hx hb dX9_bypass_0 rfl (lv_at hl 0 rfl) ?_
  refine lv_iconst (v := 0) hx hb dX9_bypass_1 (by decide) ?_
  refine va_put (D := (dC, dI)) (ci := 9) (v := .int (0 : Int32)) (ty := .int) (C := RX9) (T := TX9) (N := 13) hx hb hts i_X9 tyX9 tyX9_ok nmX9 hown hK hP hD hS 0 rfl rfl 5 (by decide) w_0 (fun _ h9 => h9) rfl (by decide +kernel) (rfl) (rfl) (Nat.le_of_ble_eq_true rfl) dX9_bypass_2 (fun H locs hP hD hS => ?_)
  have hP : va_P (dC, dI) vwCl [(q0, .inr (9, [.ref q1, .ref q2, .int svc, .ref q3, .int tl, .int (0 : Int32), .int mm, .int mr, .ref q4, .int ati, .int ors, .ref q5, .ref q6])), (q1, .inl (cyI, 246, .inl zs)), (q2, .inl (cyI, 984, .inl zv)), (q3, .inl (cyI, 80, .inl zt)), (q4, .inl (cyI, 5, .inl zp)), (q5, .inl (cyI, 40, .inl zm)), (q6, .inl (cyI, 40, .inl zk))] H := hP
  have hD : va_D A [(q0, .inr (9, [.ref q1, .ref q2, .int svc, .ref q3, .int tl, .int (0 : Int32), .int mm, .int mr, .ref q4, .int ati, .int ors, .ref q5, .ref q6])), (q1, .inl (cyI, 246, .inl zs)), (q2, .inl (cyI, 984, .inl zv)), (q3, .inl (cyI, 80, .inl zt)), (q4, .inl (cyI, 5, .inl zp)), (q5, .inl (cyI, 40, .inl zm)), (q6, .inl (cyI, 40, .inl zk))] := hD
  refine lv_iload_n hx hb dX9_bypass_5 rfl (lv_at hl 1 rfl) ?_
  refine lv_iconst (v := 0) hx hb dX9_bypass_6 (by decide) ?_
  refine lv_sipush (v := 1000) hx hb dX9_bypass_7 (by decide) ?_
  refine vp_callSi (W.runS (As := [.int tk, .int (0 : Int32), .int (1000 : Int32)]) (rest := []) ⟨hx, hb, hml, hown, hts⟩ (c_X9_in l dC dI cyI tk (0 : Int32) (1000 : Int32)) (va_cwS 3 hts (gBS b_182 b_183 b_5 b_184) rfl rfl rfl (by decide +kernel) ⟨Nat.le_of_ble_eq_true rfl, Nat.le_of_ble_eq_true rfl⟩) (pre_s eM_ok he hS (hP.sub (ws' := []) [] rfl) (hK.sub (tys' := []) [] rfl)) rfl rfl hl.1 rfl (lv_room (Nat.le_of_ble_eq_true rfl)) dX9_bypass_10 ⟨Nat.zero_le _, Nat.zero_le _⟩) (fun r_1 hr_1 => ?_)
  obtain ⟨hr_1, hbr_1⟩ := hr_1
  have hE := hE.trans (spLet_eq hr_1)
  refine lv_if_eq (tgt := 26) hx hb dX9_bypass_13 (by decide) (fun c_2 => ?_) (fun c_2 => ?_)
  ·
    have hE := hE.trans (if_pos c_2)
    refine lv_aload_n hx hb dX9_bypass_26 rfl (lv_at hl 0 rfl) ?_
    refine lv_iconst (v := 1) hx hb dX9_bypass_27 (by decide) ?_
    refine mj_i (wr := []) (va_runV (As := [.int (1 : Int32)]) (rest := []) ⟨hx, hb, hml, hown, hts⟩ (c_X9_fails l dC dI cyI H.size q0 q1 q2 q3 q4 q5 q6 svc tl (0 : Int32) mm mr ati ors zs zv zt zp zm zk (1 : Int32)) (cwV 1 hts (gBV b_185 b_186 b_187 b_5 b_188) rfl rfl rfl (by decide +kernel) ⟨Nat.le_of_ble_eq_true rfl, Nat.le_of_ble_eq_true rfl⟩) (prm_v eM_ok he hS hP hD hK (va_free (wc := [(q0, .inr (9, [.ref q1, .ref q2, .int svc, .ref q3, .int tl, .int (0 : Int32), .int mm, .int mr, .ref q4, .int ati, .int ors, .ref q5, .ref q6])), (q1, .inl (cyI, 246, .inl zs)), (q2, .inl (cyI, 984, .inl zv)), (q3, .inl (cyI, 80, .inl zt)), (q4, .inl (cyI, 5, .inl zp)), (q5, .inl (cyI, 40, .inl zm)), (q6, .inl (cyI, 40, .inl zk))]) hD hS hA [0, 1, 2, 3, 4, 5, 6] rfl) 0 rfl rfl rfl) rfl rfl hl.1 rfl (lv_room (Nat.le_of_ble_eq_true rfl)) dX9_bypass_28 ⟨Nat.le_of_ble_eq_true rfl, Nat.le_of_ble_eq_true rfl⟩) hP hD hS hA [0, 1, 2, 3, 4, 5, 6] [] rfl rfl (by decide) (by decide) (fun r_4 u_3 H locs hw hP hD hS => ?_)
    obtain ⟨hu_3, rfl⟩ := hw
    have hE := hE.trans (spLet_eq hu_3)
    have hP : va_P (dC, dI) vwCl [(q0, .inr (9, [.ref q1, .ref q2, .int svc, .ref q3, .int tl, .int (u_3.2), .int mm, .int mr, .ref q4, .int ati, .int ors, .ref q5, .ref q6])), (q1, .inl (cyI, 246, .inl zs)), (q2, .inl (cyI, 984, .inl zv)), (q3, .inl (cyI, 80, .inl zt)), (q4, .inl (cyI, 5, .inl zp)), (q5, .inl (cyI, 40, .inl zm)), (q6, .inl (cyI, 40, .inl zk))] H := hP
    have hD : va_D A [(q0, .inr (9, [.ref q1, .ref q2, .int svc, .ref q3, .int tl, .int (u_3.2), .int mm, .int mr, .ref q4, .int ati, .int ors, .ref q5, .ref q6])), (q1, .inl (cyI, 246, .inl zs)), (q2, .inl (cyI, 984, .inl zv)), (q3, .inl (cyI, 80, .inl zt)), (q4, .inl (cyI, 5, .inl zp)), (q5, .inl (cyI, 40, .inl zm)), (q6, .inl (cyI, 40, .inl zk))] := hD
    exact W.iret (v := (u_3.1)) hx hb hr (fun t h9 hW => ⟨⟨(u_3.1), (((u_3.1), svc, (u_3.2), zs, zv) : Int32 × Int32 × Int32 × (Nat → Int32) × (Nat → Int32)), rfl, ⟨hE.symm, rfl⟩, by rw [h9]; exact hP, hD⟩, hS.F h9⟩) hS.2.2 dX9_bypass_31
  ·
    have hE := hE.trans (if_neg c_2)
    refine lv_aload_n hx hb dX9_bypass_16 rfl (lv_at hl 0 rfl) ?_
    refine lv_bipush (v := 9) hx hb dX9_bypass_17 (by decide) ?_
    refine lv_iload_n hx hb dX9_bypass_19 rfl (lv_at hl 1 rfl) ?_
    refine mj_i (wr := []) (va_runV (As := [.int (9 : Int32), .int tk]) (rest := []) ⟨hx, hb, hml, hown, hts⟩ (c_X9_change l dC dI cyI H.size q0 q1 q2 q3 q4 q5 q6 svc tl (0 : Int32) mm mr ati ors zs zv zt zp zm zk 9 tk hsv hs4 (by omega)) (cwV 2 hts (gBV b_189 b_190 b_191 b_5 b_192) rfl rfl rfl (by decide +kernel) ⟨Nat.le_of_ble_eq_true rfl, Nat.le_of_ble_eq_true rfl⟩) (prm_v eM_ok he hS hP hD hK (va_free (wc := [(q0, .inr (9, [.ref q1, .ref q2, .int svc, .ref q3, .int tl, .int (0 : Int32), .int mm, .int mr, .ref q4, .int ati, .int ors, .ref q5, .ref q6])), (q1, .inl (cyI, 246, .inl zs)), (q2, .inl (cyI, 984, .inl zv)), (q3, .inl (cyI, 80, .inl zt)), (q4, .inl (cyI, 5, .inl zp)), (q5, .inl (cyI, 40, .inl zm)), (q6, .inl (cyI, 40, .inl zk))]) hD hS hA [0, 1, 2, 3, 4, 5, 6] rfl) 0 rfl rfl rfl) rfl rfl hl.1 rfl (lv_room (Nat.le_of_ble_eq_true rfl)) dX9_bypass_20 ⟨Nat.le_of_ble_eq_true rfl, Nat.le_of_ble_eq_true rfl⟩) hP hD hS hA [0, 1, 2, 3, 4, 5, 6] [] rfl rfl (by decide) (by decide) (fun r_6 u_5 H locs hw hP hD hS => ?_)
    obtain ⟨hu_5, rfl⟩ := hw
    have hE := hE.trans (spLet_eq hu_5)
    have hP : va_P (dC, dI) vwCl [(q0, .inr (9, [.ref q1, .ref q2, .int (u_5.2.1), .ref q3, .int tl, .int (0 : Int32), .int mm, .int mr, .ref q4, .int ati, .int ors, .ref q5, .ref q6])), (q1, .inl (cyI, 246, .inl (u_5.2.2.1))), (q2, .inl (cyI, 984, .inl (u_5.2.2.2))), (q3, .inl (cyI, 80, .inl zt)), (q4, .inl (cyI, 5, .inl zp)), (q5, .inl (cyI, 40, .inl zm)), (q6, .inl (cyI, 40, .inl zk))] H := hP
    have hD : va_D A [(q0, .inr (9, [.ref q1, .ref q2, .int (u_5.2.1), .ref q3, .int tl, .int (0 : Int32), .int mm, .int mr, .ref q4, .int ati, .int ors, .ref q5, .ref q6])), (q1, .inl (cyI, 246, .inl (u_5.2.2.1))), (q2, .inl (cyI, 984, .inl (u_5.2.2.2))), (q3, .inl (cyI, 80, .inl zt)), (q4, .inl (cyI, 5, .inl zp)), (q5, .inl (cyI, 40, .inl zm)), (q6, .inl (cyI, 40, .inl zk))] := hD
    refine lv_goto (tgt := 31) hx hb dX9_bypass_23 (by decide) ?_
    exact W.iret (v := (u_5.1)) hx hb hr (fun t h9 hW => ⟨⟨(u_5.1), (((u_5.1), (u_5.2.1), (0 : Int32), (u_5.2.2.1), (u_5.2.2.2)) : Int32 × Int32 × Int32 × (Nat → Int32) × (Nat → Int32)), rfl, ⟨hE.symm, rfl⟩, by rw [h9]; exact hP, hD⟩, hS.F h9⟩) hS.2.2 dX9_bypass_31
def m_attach_j49 (svc : Int32) (zs : Nat → Int32) (zv : Nat → Int32) : Int32 × Int32 × Int32 × (Nat → Int32) × (Nat → Int32) :=
  spLet (m_fails (2 : Int32)) (fun u_4 => ((u_4.1), svc, (u_4.2), zs, zv))
def m_attach (svc : Int32) (zs : Nat → Int32) (zv : Nat → Int32) (ma : Int32) : Int32 × Int32 × Int32 × (Nat → Int32) × (Nat → Int32) :=
  spLet (m_in ma (0 : Int32) (100000 : Int32)) (fun r_1 => if r_1 = 0 then (spLet (m_fails (1 : Int32)) (fun u_9 => ((u_9.1), svc, (u_9.2), zs, zv))) else (if (zs 4) = 0 then (if (zs 3) = 0 then (spLet (m_change svc zs zv 6 ma) (fun u_7 => ((u_7.1), (u_7.2.1), (0 : Int32), (u_7.2.2.1), (u_7.2.2.2)))) else (m_attach_j49 svc zs zv)) else (m_attach_j49 svc zs zv)))
set_option maxHeartbeats 1000000 in
set_option maxRecDepth 100000 in
theorem c_X9_attach (l : Launch) (dC : Nat → ClassId) (dI : Nat → Nat → Nat) (cyI : ClassId) (sz : Nat) (q0 : Nat) (q1 : Nat) (q2 : Nat) (q3 : Nat) (q4 : Nat) (q5 : Nat) (q6 : Nat) (svc : Int32) (tl : Int32) (cde : Int32) (mm : Int32) (mr : Int32) (ati : Int32) (ors : Int32) (zs : Nat → Int32) (zv : Nat → Int32) (zt : Nat → Int32) (zp : Nat → Int32) (zm : Nat → Int32) (zk : Nat → Int32) (ma : Int32) (hsv : svc = nI svc.toNatClampNeg) (hs4 : svc.toNatClampNeg ≤ 4) (hG : mG zs) : Met l yX9_attach wqX9_attach ({ frames := 2, cells := 0, slots := 0, locals := 44 } : Room) (va_Pc [.ref q0, .int ma] (pC (dC, dI) [(q0, .inr (9, [.ref q1, .ref q2, .int svc, .ref q3, .int tl, .int cde, .int mm, .int mr, .ref q4, .int ati, .int ors, .ref q5, .ref q6])), (q1, .inl (cyI, 246, .inl zs)), (q2, .inl (cyI, 984, .inl zv)), (q3, .inl (cyI, 80, .inl zt)), (q4, .inl (cyI, 5, .inl zp)), (q5, .inl (cyI, 40, .inl zm)), (q6, .inl (cyI, 40, .inl zk))] [(cyI, .int)] eM sz)) (va_Qi (fun (r : Int32) (u : Int32 × Int32 × Int32 × (Nat → Int32) × (Nat → Int32)) => u = (m_attach svc zs zv ma) ∧ r = u.1) (fun (u : Int32 × Int32 × Int32 × (Nat → Int32) × (Nat → Int32)) t => va_P (dC, dI) vwCl [(q0, .inr (9, [.ref q1, .ref q2, .int (u.2.1), .ref q3, .int tl, .int (u.2.2.1), .int mm, .int mr, .ref q4, .int ati, .int ors, .ref q5, .ref q6])), (q1, .inl (cyI, 246, .inl (u.2.2.2.1))), (q2, .inl (cyI, 984, .inl (u.2.2.2.2))), (q3, .inl (cyI, 80, .inl zt)), (q4, .inl (cyI, 5, .inl zp)), (q5, .inl (cyI, 40, .inl zm)), (q6, .inl (cyI, 40, .inl zk))] t.heap ∧ va_D (va_A [(q0, .inr (9, [.ref q1, .ref q2, .int svc, .ref q3, .int tl, .int cde, .int mm, .int mr, .ref q4, .int ati, .int ors, .ref q5, .ref q6])), (q1, .inl (cyI, 246, .inl zs)), (q2, .inl (cyI, 984, .inl zv)), (q3, .inl (cyI, 80, .inl zt)), (q4, .inl (cyI, 5, .inl zp)), (q5, .inl (cyI, 40, .inl zm)), (q6, .inl (cyI, 40, .inl zk))] sz) [(q0, .inr (9, [.ref q1, .ref q2, .int (u.2.1), .ref q3, .int tl, .int (u.2.2.1), .int mm, .int mr, .ref q4, .int ati, .int ors, .ref q5, .ref q6])), (q1, .inl (cyI, 246, .inl (u.2.2.2.1))), (q2, .inl (cyI, 984, .inl (u.2.2.2.2))), (q3, .inl (cyI, 80, .inl zt)), (q4, .inl (cyI, 5, .inl zp)), (q5, .inl (cyI, 40, .inl zm)), (q6, .inl (cyI, 40, .inl zk))]) (va_A [(q0, .inr (9, [.ref q1, .ref q2, .int svc, .ref q3, .int tl, .int cde, .int mm, .int mr, .ref q4, .int ati, .int ors, .ref q5, .ref q6])), (q1, .inl (cyI, 246, .inl zs)), (q2, .inl (cyI, 984, .inl zv)), (q3, .inl (cyI, 80, .inl zt)), (q4, .inl (cyI, 5, .inl zp)), (q5, .inl (cyI, 40, .inl zm)), (q6, .inl (cyI, 40, .inl zk))] sz)) 0 0 (va_A [(q0, .inr (9, [.ref q1, .ref q2, .int svc, .ref q3, .int tl, .int cde, .int mm, .int mr, .ref q4, .int ati, .int ors, .ref q5, .ref q6])), (q1, .inl (cyI, 246, .inl zs)), (q2, .inl (cyI, 984, .inl zv)), (q3, .inl (cyI, 80, .inl zt)), (q4, .inl (cyI, 5, .inl zp)), (q5, .inl (cyI, 40, .inl zm)), (q6, .inl (cyI, 40, .inl zk))] sz) := by
  refine Met.ofW (cc := cX9_attach) (maxL := 2) (ret := (some .int)) (by decide) rfl ?_
  intro p e s m args below meth c s₁ B hml hv
  obtain ⟨rfl, hsz, hP, hK, hD0, he⟩ := hv
  have hx := B.exec
  have hb := B.bytes
  have hr := B.returns
  have hts := atoms_spec (ws := wqX9_attach) B.pre
  have hown : s.vm.findClass RX9 = some m.cls := findClass_of_methodNamed B.named
  have hlocks := B.notSynchronized
  have w_0 := hts (Cond.fieldLink RX9 28 "CraneLimiterModel" "code" "I") (List.mem_cons_of_mem _ b_181)
  have w_1 := hts (Cond.constant RX9 145 (100000)) (List.mem_cons_of_mem _ b_234)
  have w_2 := hts (Cond.fieldLink RX9 7 "CraneLimiterModel" "s" "[I") (List.mem_cons_of_mem _ b_93)
  have i_X9 : ∀ w ∈ u_ws RX9 TX9 13, w ∈ wqX9_attach := fun w h => List.mem_cons_of_mem _ (bX9 w h)
  subst hsz
  have hD := hD0.self (sz := s.heap.size)
  generalize hAe : va_A [(q0, .inr (9, [.ref q1, .ref q2, .int svc, .ref q3, .int tl, .int cde, .int mm, .int mr, .ref q4, .int ati, .int ors, .ref q5, .ref q6])), (q1, .inl (cyI, 246, .inl zs)), (q2, .inl (cyI, 984, .inl zv)), (q3, .inl (cyI, 80, .inl zt)), (q4, .inl (cyI, 5, .inl zp)), (q5, .inl (cyI, 40, .inl zm)), (q6, .inl (cyI, 40, .inl zk))] s.heap.size = A at hD he ⊢
  have hA : ∀ q : Nat, s.heap.size ≤ q → A q := fun q h => by rw [← hAe]; exact Or.inr h
  have hS : va_S A s.heap s.heap [] := va_S.rf
  have hP : va_P (dC, dI) vwCl [(q0, .inr (9, [.ref q1, .ref q2, .int svc, .ref q3, .int tl, .int cde, .int mm, .int mr, .ref q4, .int ati, .int ors, .ref q5, .ref q6])), (q1, .inl (cyI, 246, .inl zs)), (q2, .inl (cyI, 984, .inl zv)), (q3, .inl (cyI, 80, .inl zt)), (q4, .inl (cyI, 5, .inl zp)), (q5, .inl (cyI, 40, .inl zm)), (q6, .inl (cyI, 40, .inl zk))] s.heap := hP
  have hl := lv_entry ([.ref q0, .int ma] : List Value) (n := 2) (Nat.le_of_ble_eq_true rfl)
  rw [lg_entry_eq]
  generalize (lg_sl ([.ref q0, .int ma] : List Value) ++ List.replicate (2 - (lg_sl ([.ref q0, .int ma] : List Value)).length) Slot.unset).toArray = ls at hl ⊢
  have hl : lv_has ls 2 [(0, .ref q0), (1, .int ma)] := hl
  have hE : m_attach svc zs zv ma = m_attach svc zs zv ma := rfl
  refine lv_aload_n hx hb dX9_attach_0 rfl (lv_at hl 0 rfl) ?_
  refine lv_iconst (v := 0) hx hb dX9_attach_1 (by decide) ?_
  refine va_put (D := (dC, dI)) (ci := 9) (v := .int (0 : Int32)) (ty := .int) (C := RX9) (T := TX9) (N := 13) hx hb hts i_X9 tyX9 tyX9_ok nmX9 hown hK hP hD hS 0 rfl rfl 5 (by decide) w_0 (fun _ h9 => h9) rfl (by decide +kernel) (rfl) (rfl) (Nat.le_of_ble_eq_true rfl) dX9_attach_2 (fun H locs hP hD hS => ?_)
  have hP : va_P (dC, dI) vwCl [(q0, .inr (9, [.ref q1, .ref q2, .int svc, .ref q3, .int tl, .int (0 : Int32), .int mm, .int mr, .ref q4, .int ati, .int ors, .ref q5, .ref q6])), (q1, .inl (cyI, 246, .inl zs)), (q2, .inl (cyI, 984, .inl zv)), (q3, .inl (cyI, 80, .inl zt)), (q4, .inl (cyI, 5, .inl zp)), (q5, .inl (cyI, 40, .inl zm)), (q6, .inl (cyI, 40, .inl zk))] H := hP
  have hD : va_D A [(q0, .inr (9, [.ref q1, .ref q2, .int svc, .ref q3, .int tl, .int (0 : Int32), .int mm, .int mr, .ref q4, .int ati, .int ors, .ref q5, .ref q6])), (q1, .inl (cyI, 246, .inl zs)), (q2, .inl (cyI, 984, .inl zv)), (q3, .inl (cyI, 80, .inl zt)), (q4, .inl (cyI, 5, .inl zp)), (q5, .inl (cyI, 40, .inl zm)), (q6, .inl (cyI, 40, .inl zk))] := hD
  refine lv_iload_n hx hb dX9_attach_5 rfl (lv_at hl 1 rfl) ?_
  refine lv_iconst (v := 0) hx hb dX9_attach_6 (by decide) ?_
  refine lv_ldc (v := 100000) hx hb hown w_1 dX9_attach_7 ?_
  refine vp_callSi (W.runS (As := [.int ma, .int (0 : Int32), .int (100000 : Int32)]) (rest := []) ⟨hx, hb, hml, hown, hts⟩ (c_X9_in l dC dI cyI ma (0 : Int32) (100000 : Int32)) (va_cwS 3 hts (gBS b_182 b_183 b_5 b_184) rfl rfl rfl (by decide +kernel) ⟨Nat.le_of_ble_eq_true rfl, Nat.le_of_ble_eq_true rfl⟩) (pre_s eM_ok he hS (hP.sub (ws' := []) [] rfl) (hK.sub (tys' := []) [] rfl)) rfl rfl hl.1 rfl (lv_room (Nat.le_of_ble_eq_true rfl)) dX9_attach_9 ⟨Nat.zero_le _, Nat.zero_le _⟩) (fun r_1 hr_1 => ?_)
  obtain ⟨hr_1, hbr_1⟩ := hr_1
  have hE := hE.trans (spLet_eq hr_1)
  refine lv_if_ne (tgt := 21) hx hb dX9_attach_12 (by decide) (fun c_2 => ?_) (fun c_2 => ?_)
  ·
    have hE := hE.trans (if_neg c_2)
    refine lv_aload_n hx hb dX9_attach_21 rfl (lv_at hl 0 rfl) ?_
    refine va_get (D := (dC, dI)) (ci := 9) (v := .ref q1) (C := RX9) (T := TX9) (N := 13) hx hb hts i_X9 hown hK hP 0 rfl rfl 0 (by decide) w_2 (fun _ h9 => h9) rfl dX9_attach_22 ?_
    refine lv_iconst (v := 4) hx hb dX9_attach_25 (by decide) ?_
    refine ra_ld hx hb hK hP 1 0 rfl rfl (j := 4) (rfl : (4 : Int32) = nI 4) (by omega) (by omega) dX9_attach_26 ?_
    have J49 : ∀ (ls : Array Slot) (hl : lv_has ls 2 [(0, .ref q0)]) (hE : (m_attach svc zs zv ma) = m_attach_j49 svc zs zv), W p l e (headSpec wqX9_attach ({ frames := 2, cells := 0, slots := 0, locals := 44 } : Room)).room s m ([.ref q0, .int ma] : List Value).toArray below meth c H locs 0 0 (MQ below (va_Qi (fun (r : Int32) (u : Int32 × Int32 × Int32 × (Nat → Int32) × (Nat → Int32)) => u = (m_attach svc zs zv ma) ∧ r = u.1) (fun (u : Int32 × Int32 × Int32 × (Nat → Int32) × (Nat → Int32)) t => va_P (dC, dI) vwCl [(q0, .inr (9, [.ref q1, .ref q2, .int (u.2.1), .ref q3, .int tl, .int (u.2.2.1), .int mm, .int mr, .ref q4, .int ati, .int ors, .ref q5, .ref q6])), (q1, .inl (cyI, 246, .inl (u.2.2.2.1))), (q2, .inl (cyI, 984, .inl (u.2.2.2.2))), (q3, .inl (cyI, 80, .inl zt)), (q4, .inl (cyI, 5, .inl zp)), (q5, .inl (cyI, 40, .inl zm)), (q6, .inl (cyI, 40, .inl zk))] t.heap ∧ va_D A [(q0, .inr (9, [.ref q1, .ref q2, .int (u.2.1), .ref q3, .int tl, .int (u.2.2.1), .int mm, .int mr, .ref q4, .int ati, .int ors, .ref q5, .ref q6])), (q1, .inl (cyI, 246, .inl (u.2.2.2.1))), (q2, .inl (cyI, 984, .inl (u.2.2.2.2))), (q3, .inl (cyI, 80, .inl zt)), (q4, .inl (cyI, 5, .inl zp)), (q5, .inl (cyI, 40, .inl zm)), (q6, .inl (cyI, 40, .inl zk))]) A) ([.ref q0, .int ma] : List Value).toArray s 0 0 A) (F0 m 49 ls []) := by
      intro ls hl hE
      refine lv_aload_n hx hb dX9_attach_49 rfl (lv_at hl 0 rfl) ?_
      refine lv_iconst (v := 2) hx hb dX9_attach_50 (by decide) ?_
      refine mj_i (wr := []) (va_runV (As := [.int (2 : Int32)]) (rest := []) ⟨hx, hb, hml, hown, hts⟩ (c_X9_fails l dC dI cyI H.size q0 q1 q2 q3 q4 q5 q6 svc tl (0 : Int32) mm mr ati ors zs zv zt zp zm zk (2 : Int32)) (cwV 1 hts (gBV b_185 b_186 b_187 b_5 b_188) rfl rfl rfl (by decide +kernel) ⟨Nat.le_of_ble_eq_true rfl, Nat.le_of_ble_eq_true rfl⟩) (prm_v eM_ok he hS hP hD hK (va_free (wc := [(q0, .inr (9, [.ref q1, .ref q2, .int svc, .ref q3, .int tl, .int (0 : Int32), .int mm, .int mr, .ref q4, .int ati, .int ors, .ref q5, .ref q6])), (q1, .inl (cyI, 246, .inl zs)), (q2, .inl (cyI, 984, .inl zv)), (q3, .inl (cyI, 80, .inl zt)), (q4, .inl (cyI, 5, .inl zp)), (q5, .inl (cyI, 40, .inl zm)), (q6, .inl (cyI, 40, .inl zk))]) hD hS hA [0, 1, 2, 3, 4, 5, 6] rfl) 0 rfl rfl rfl) rfl rfl hl.1 rfl (lv_room (Nat.le_of_ble_eq_true rfl)) dX9_attach_51 ⟨Nat.le_of_ble_eq_true rfl, Nat.le_of_ble_eq_true rfl⟩) hP hD hS hA [0, 1, 2, 3, 4, 5, 6] [] rfl rfl (by decide) (by decide) (fun r_5 u_4 H locs hw hP hD hS => ?_)
      obtain ⟨hu_4, rfl⟩ := hw
      have hE := hE.trans (spLet_eq hu_4)
      have hP : va_P (dC, dI) vwCl [(q0, .inr (9, [.ref q1, .ref q2, .int svc, .ref q3, .int tl, .int (u_4.2), .int mm, .int mr, .ref q4, .int ati, .int ors, .ref q5, .ref q6])), (q1, .inl (cyI, 246, .inl zs)), (q2, .inl (cyI, 984, .inl zv)), (q3, .inl (cyI, 80, .inl zt)), (q4, .inl (cyI, 5, .inl zp)), (q5, .inl (cyI, 40, .inl zm)), (q6, .inl (cyI, 40, .inl zk))] H := hP
      have hD : va_D A [(q0, .inr (9, [.ref q1, .ref q2, .int svc, .ref q3, .int tl, .int (u_4.2), .int mm, .int mr, .ref q4, .int ati, .int ors, .ref q5, .ref q6])), (q1, .inl (cyI, 246, .inl zs)), (q2, .inl (cyI, 984, .inl zv)), (q3, .inl (cyI, 80, .inl zt)), (q4, .inl (cyI, 5, .inl zp)), (q5, .inl (cyI, 40, .inl zm)), (q6, .inl (cyI, 40, .inl zk))] := hD
      exact W.iret (v := (u_4.1)) hx hb hr (fun t h9 hW => ⟨⟨(u_4.1), (((u_4.1), svc, (u_4.2), zs, zv) : Int32 × Int32 × Int32 × (Nat → Int32) × (Nat → Int32)), rfl, ⟨hE.symm, rfl⟩, by rw [h9]; exact hP, hD⟩, hS.F h9⟩) hS.2.2 dX9_attach_54
    refine lv_if_ne (tgt := 49) hx hb dX9_attach_27 (by decide) (fun c_3 => ?_) (fun c_3 => ?_)
    ·
      have hE := hE.trans (if_neg c_3)
      exact J49 ls (lv_sub hl [0] rfl) hE
    ·
      have hE := hE.trans (if_pos c_3)
      refine lv_aload_n hx hb dX9_attach_30 rfl (lv_at hl 0 rfl) ?_
      refine va_get (D := (dC, dI)) (ci := 9) (v := .ref q1) (C := RX9) (T := TX9) (N := 13) hx hb hts i_X9 hown hK hP 0 rfl rfl 0 (by decide) w_2 (fun _ h9 => h9) rfl dX9_attach_31 ?_
      refine lv_iconst (v := 3) hx hb dX9_attach_34 (by decide) ?_
      refine ra_ld hx hb hK hP 1 0 rfl rfl (j := 3) (rfl : (3 : Int32) = nI 3) (by omega) (by omega) dX9_attach_35 ?_
      refine lv_if_ne (tgt := 49) hx hb dX9_attach_36 (by decide) (fun c_6 => ?_) (fun c_6 => ?_)
      ·
        have hE := hE.trans (if_neg c_6)
        exact J49 ls (lv_sub hl [0] rfl) hE
      ·
        have hE := hE.trans (if_pos c_6)
        refine lv_aload_n hx hb dX9_attach_39 rfl (lv_at hl 0 rfl) ?_
        refine lv_bipush (v := 6) hx hb dX9_attach_40 (by decide) ?_
        refine lv_iload_n hx hb dX9_attach_42 rfl (lv_at hl 1 rfl) ?_
        refine mj_i (wr := []) (va_runV (As := [.int (6 : Int32), .int ma]) (rest := []) ⟨hx, hb, hml, hown, hts⟩ (c_X9_change l dC dI cyI H.size q0 q1 q2 q3 q4 q5 q6 svc tl (0 : Int32) mm mr ati ors zs zv zt zp zm zk 6 ma hsv hs4 (by omega)) (cwV 2 hts (gBV b_189 b_190 b_191 b_5 b_192) rfl rfl rfl (by decide +kernel) ⟨Nat.le_of_ble_eq_true rfl, Nat.le_of_ble_eq_true rfl⟩) (prm_v eM_ok he hS hP hD hK (va_free (wc := [(q0, .inr (9, [.ref q1, .ref q2, .int svc, .ref q3, .int tl, .int (0 : Int32), .int mm, .int mr, .ref q4, .int ati, .int ors, .ref q5, .ref q6])), (q1, .inl (cyI, 246, .inl zs)), (q2, .inl (cyI, 984, .inl zv)), (q3, .inl (cyI, 80, .inl zt)), (q4, .inl (cyI, 5, .inl zp)), (q5, .inl (cyI, 40, .inl zm)), (q6, .inl (cyI, 40, .inl zk))]) hD hS hA [0, 1, 2, 3, 4, 5, 6] rfl) 0 rfl rfl rfl) rfl rfl hl.1 rfl (lv_room (Nat.le_of_ble_eq_true rfl)) dX9_attach_43 ⟨Nat.le_of_ble_eq_true rfl, Nat.le_of_ble_eq_true rfl⟩) hP hD hS hA [0, 1, 2, 3, 4, 5, 6] [] rfl rfl (by decide) (by decide) (fun r_8 u_7 H locs hw hP hD hS => ?_)
        obtain ⟨hu_7, rfl⟩ := hw
        have hE := hE.trans (spLet_eq hu_7)
        have hP : va_P (dC, dI) vwCl [(q0, .inr (9, [.ref q1, .ref q2, .int (u_7.2.1), .ref q3, .int tl, .int (0 : Int32), .int mm, .int mr, .ref q4, .int ati, .int ors, .ref q5, .ref q6])), (q1, .inl (cyI, 246, .inl (u_7.2.2.1))), (q2, .inl (cyI, 984, .inl (u_7.2.2.2))), (q3, .inl (cyI, 80, .inl zt)), (q4, .inl (cyI, 5, .inl zp)), (q5, .inl (cyI, 40, .inl zm)), (q6, .inl (cyI, 40, .inl zk))] H := hP
        have hD : va_D A [(q0, .inr (9, [.ref q1, .ref q2, .int (u_7.2.1), .ref q3, .int tl, .int (0 : Int32), .int mm, .int mr, .ref q4, .int ati, .int ors, .ref q5, .ref q6])), (q1, .inl (cyI, 246, .inl (u_7.2.2.1))), (q2, .inl (cyI, 984, .inl (u_7.2.2.2))), (q3, .inl (cyI, 80, .inl zt)), (q4, .inl (cyI, 5, .inl zp)), (q5, .inl (cyI, 40, .inl zm)), (q6, .inl (cyI, 40, .inl zk))] := hD
        refine lv_goto (tgt := 54) hx hb dX9_attach_46 (by decide) ?_
        exact W.iret (v := (u_7.1)) hx hb hr (fun t h9 hW => ⟨⟨(u_7.1), (((u_7.1), (u_7.2.1), (0 : Int32), (u_7.2.2.1), (u_7.2.2.2)) : Int32 × Int32 × Int32 × (Nat → Int32) × (Nat → Int32)), rfl, ⟨hE.symm, rfl⟩, by rw [h9]; exact hP, hD⟩, hS.F h9⟩) hS.2.2 dX9_attach_54
  ·
    have hE := hE.trans (if_pos c_2)
    refine lv_aload_n hx hb dX9_attach_15 rfl (lv_at hl 0 rfl) ?_
    refine lv_iconst (v := 1) hx hb dX9_attach_16 (by decide) ?_
    refine mj_i (wr := []) (va_runV (As := [.int (1 : Int32)]) (rest := []) ⟨hx, hb, hml, hown, hts⟩ (c_X9_fails l dC dI cyI H.size q0 q1 q2 q3 q4 q5 q6 svc tl (0 : Int32) mm mr ati ors zs zv zt zp zm zk (1 : Int32)) (cwV 1 hts (gBV b_185 b_186 b_187 b_5 b_188) rfl rfl rfl (by decide +kernel) ⟨Nat.le_of_ble_eq_true rfl, Nat.le_of_ble_eq_true rfl⟩) (prm_v eM_ok he hS hP hD hK (va_free (wc := [(q0, .inr (9, [.ref q1, .ref q2, .int svc, .ref q3, .int tl, .int (0 : Int32), .int mm, .int mr, .ref q4, .int ati, .int ors, .ref q5, .ref q6])), (q1, .inl (cyI, 246, .inl zs)), (q2, .inl (cyI, 984, .inl zv)), (q3, .inl (cyI, 80, .inl zt)), (q4, .inl (cyI, 5, .inl zp)), (q5, .inl (cyI, 40, .inl zm)), (q6, .inl (cyI, 40, .inl zk))]) hD hS hA [0, 1, 2, 3, 4, 5, 6] rfl) 0 rfl rfl rfl) rfl rfl hl.1 rfl (lv_room (Nat.le_of_ble_eq_true rfl)) dX9_attach_17 ⟨Nat.le_of_ble_eq_true rfl, Nat.le_of_ble_eq_true rfl⟩) hP hD hS hA [0, 1, 2, 3, 4, 5, 6] [] rfl rfl (by decide) (by decide) (fun r_10 u_9 H locs hw hP hD hS => ?_)
    obtain ⟨hu_9, rfl⟩ := hw
    have hE := hE.trans (spLet_eq hu_9)
    have hP : va_P (dC, dI) vwCl [(q0, .inr (9, [.ref q1, .ref q2, .int svc, .ref q3, .int tl, .int (u_9.2), .int mm, .int mr, .ref q4, .int ati, .int ors, .ref q5, .ref q6])), (q1, .inl (cyI, 246, .inl zs)), (q2, .inl (cyI, 984, .inl zv)), (q3, .inl (cyI, 80, .inl zt)), (q4, .inl (cyI, 5, .inl zp)), (q5, .inl (cyI, 40, .inl zm)), (q6, .inl (cyI, 40, .inl zk))] H := hP
    have hD : va_D A [(q0, .inr (9, [.ref q1, .ref q2, .int svc, .ref q3, .int tl, .int (u_9.2), .int mm, .int mr, .ref q4, .int ati, .int ors, .ref q5, .ref q6])), (q1, .inl (cyI, 246, .inl zs)), (q2, .inl (cyI, 984, .inl zv)), (q3, .inl (cyI, 80, .inl zt)), (q4, .inl (cyI, 5, .inl zp)), (q5, .inl (cyI, 40, .inl zm)), (q6, .inl (cyI, 40, .inl zk))] := hD
    exact W.iret (v := (u_9.1)) hx hb hr (fun t h9 hW => ⟨⟨(u_9.1), (((u_9.1), svc, (u_9.2), zs, zv) : Int32 × Int32 × Int32 × (Nat → Int32) × (Nat → Int32)), rfl, ⟨hE.symm, rfl⟩, by rw [h9]; exact hP, hD⟩, hS.F h9⟩) hS.2.2 dX9_attach_20
def m_wind_b28 (sp : Int32) (u_3 : Int32 × (Nat → Int32)) (rec28 : Nat → (Nat → Int32) → (Int32 × Int32 × Int32 × (Nat → Int32) × (Nat → Int32))) : Nat → (Nat → Int32) → (Int32 × Int32 × Int32 × (Nat → Int32) × (Nat → Int32)) :=
  fun k2_28 w1_a_28 => if 3 ≤ k2_28 then (spLet (upd w1_a_28 17 sp) (fun f_5 => spLet (m_windNow f_5) (fun r_6 => (r_6, (u_3.1), (0 : Int32), f_5, (u_3.2))))) else (spLet ((w1_a_28 ((14 + k2_28) + 1))) (fun x_9 => spLet (upd w1_a_28 (14 + k2_28) x_9) (fun f_10 => rec28 (k2_28 + 1) f_10)))
def m_wind (svc : Int32) (zs : Nat → Int32) (zv : Nat → Int32) (sp : Int32) : Int32 × Int32 × Int32 × (Nat → Int32) × (Nat → Int32) :=
  spLet (m_in sp (0 : Int32) (1000 : Int32)) (fun r_1 => if r_1 = 0 then (spLet (m_fails (1 : Int32)) (fun u_11 => ((u_11.1), svc, (u_11.2), zs, zv))) else (spLet (m_keep svc zs zv) (fun u_3 => spIter (fun _ _ => default) (m_wind_b28 sp u_3) 4 0 zs)))
set_option maxHeartbeats 1000000 in
set_option maxRecDepth 100000 in
theorem c_X9_wind (l : Launch) (dC : Nat → ClassId) (dI : Nat → Nat → Nat) (cyI : ClassId) (sz : Nat) (q0 : Nat) (q1 : Nat) (q2 : Nat) (q3 : Nat) (q4 : Nat) (q5 : Nat) (q6 : Nat) (svc : Int32) (tl : Int32) (cde : Int32) (mm : Int32) (mr : Int32) (ati : Int32) (ors : Int32) (zs : Nat → Int32) (zv : Nat → Int32) (zt : Nat → Int32) (zp : Nat → Int32) (zm : Nat → Int32) (zk : Nat → Int32) (sp : Int32) (hsv : svc = nI svc.toNatClampNeg) (hs4 : svc.toNatClampNeg ≤ 4) (hG : mG zs) : Met l yX9_wind wqX9_wind ({ frames := 2, cells := 0, slots := 0, locals := 43 } : Room) (va_Pc [.ref q0, .int sp] (pC (dC, dI) [(q0, .inr (9, [.ref q1, .ref q2, .int svc, .ref q3, .int tl, .int cde, .int mm, .int mr, .ref q4, .int ati, .int ors, .ref q5, .ref q6])), (q1, .inl (cyI, 246, .inl zs)), (q2, .inl (cyI, 984, .inl zv)), (q3, .inl (cyI, 80, .inl zt)), (q4, .inl (cyI, 5, .inl zp)), (q5, .inl (cyI, 40, .inl zm)), (q6, .inl (cyI, 40, .inl zk))] [(cyI, .int)] eM sz)) (va_Qi (fun (r : Int32) (u : Int32 × Int32 × Int32 × (Nat → Int32) × (Nat → Int32)) => u = (m_wind svc zs zv sp) ∧ r = u.1) (fun (u : Int32 × Int32 × Int32 × (Nat → Int32) × (Nat → Int32)) t => va_P (dC, dI) vwCl [(q0, .inr (9, [.ref q1, .ref q2, .int (u.2.1), .ref q3, .int tl, .int (u.2.2.1), .int mm, .int mr, .ref q4, .int ati, .int ors, .ref q5, .ref q6])), (q1, .inl (cyI, 246, .inl (u.2.2.2.1))), (q2, .inl (cyI, 984, .inl (u.2.2.2.2))), (q3, .inl (cyI, 80, .inl zt)), (q4, .inl (cyI, 5, .inl zp)), (q5, .inl (cyI, 40, .inl zm)), (q6, .inl (cyI, 40, .inl zk))] t.heap ∧ va_D (va_A [(q0, .inr (9, [.ref q1, .ref q2, .int svc, .ref q3, .int tl, .int cde, .int mm, .int mr, .ref q4, .int ati, .int ors, .ref q5, .ref q6])), (q1, .inl (cyI, 246, .inl zs)), (q2, .inl (cyI, 984, .inl zv)), (q3, .inl (cyI, 80, .inl zt)), (q4, .inl (cyI, 5, .inl zp)), (q5, .inl (cyI, 40, .inl zm)), (q6, .inl (cyI, 40, .inl zk))] sz) [(q0, .inr (9, [.ref q1, .ref q2, .int (u.2.1), .ref q3, .int tl, .int (u.2.2.1), .int mm, .int mr, .ref q4, .int ati, .int ors, .ref q5, .ref q6])), (q1, .inl (cyI, 246, .inl (u.2.2.2.1))), (q2, .inl (cyI, 984, .inl (u.2.2.2.2))), (q3, .inl (cyI, 80, .inl zt)), (q4, .inl (cyI, 5, .inl zp)), (q5, .inl (cyI, 40, .inl zm)), (q6, .inl (cyI, 40, .inl zk))]) (va_A [(q0, .inr (9, [.ref q1, .ref q2, .int svc, .ref q3, .int tl, .int cde, .int mm, .int mr, .ref q4, .int ati, .int ors, .ref q5, .ref q6])), (q1, .inl (cyI, 246, .inl zs)), (q2, .inl (cyI, 984, .inl zv)), (q3, .inl (cyI, 80, .inl zt)), (q4, .inl (cyI, 5, .inl zp)), (q5, .inl (cyI, 40, .inl zm)), (q6, .inl (cyI, 40, .inl zk))] sz)) 0 0 (va_A [(q0, .inr (9, [.ref q1, .ref q2, .int svc, .ref q3, .int tl, .int cde, .int mm, .int mr, .ref q4, .int ati, .int ors, .ref q5, .ref q6])), (q1, .inl (cyI, 246, .inl zs)), (q2, .inl (cyI, 984, .inl zv)), (q3, .inl (cyI, 80, .inl zt)), (q4, .inl (cyI, 5, .inl zp)), (q5, .inl (cyI, 40, .inl zm)), (q6, .inl (cyI, 40, .inl zk))] sz) := by
  refine Met.ofW (cc := cX9_wind) (maxL := 3) (ret := (some .int)) (by decide) rfl ?_
  intro p e s m args below meth c s₁ B hml hv
  obtain ⟨rfl, hsz, hP, hK, hD0, he⟩ := hv
  have hx := B.exec
  have hb := B.bytes
  have hr := B.returns
  have hts := atoms_spec (ws := wqX9_wind) B.pre
  have hown : s.vm.findClass RX9 = some m.cls := findClass_of_methodNamed B.named
  have hlocks := B.notSynchronized
  have w_0 := hts (Cond.fieldLink RX9 28 "CraneLimiterModel" "code" "I") (List.mem_cons_of_mem _ b_181)
  have w_1 := hts (Cond.fieldLink RX9 7 "CraneLimiterModel" "s" "[I") (List.mem_cons_of_mem _ b_93)
  have i_X9 : ∀ w ∈ u_ws RX9 TX9 13, w ∈ wqX9_wind := fun w h => List.mem_cons_of_mem _ (bX9 w h)
  subst hsz
  have hD := hD0.self (sz := s.heap.size)
  generalize hAe : va_A [(q0, .inr (9, [.ref q1, .ref q2, .int svc, .ref q3, .int tl, .int cde, .int mm, .int mr, .ref q4, .int ati, .int ors, .ref q5, .ref q6])), (q1, .inl (cyI, 246, .inl zs)), (q2, .inl (cyI, 984, .inl zv)), (q3, .inl (cyI, 80, .inl zt)), (q4, .inl (cyI, 5, .inl zp)), (q5, .inl (cyI, 40, .inl zm)), (q6, .inl (cyI, 40, .inl zk))] s.heap.size = A at hD he ⊢
  have hA : ∀ q : Nat, s.heap.size ≤ q → A q := fun q h => by rw [← hAe]; exact Or.inr h
  have hS : va_S A s.heap s.heap [] := va_S.rf
  have hP : va_P (dC, dI) vwCl [(q0, .inr (9, [.ref q1, .ref q2, .int svc, .ref q3, .int tl, .int cde, .int mm, .int mr, .ref q4, .int ati, .int ors, .ref q5, .ref q6])), (q1, .inl (cyI, 246, .inl zs)), (q2, .inl (cyI, 984, .inl zv)), (q3, .inl (cyI, 80, .inl zt)), (q4, .inl (cyI, 5, .inl zp)), (q5, .inl (cyI, 40, .inl zm)), (q6, .inl (cyI, 40, .inl zk))] s.heap := hP
  have hl := lv_entry ([.ref q0, .int sp] : List Value) (n := 3) (Nat.le_of_ble_eq_true rfl)
  rw [lg_entry_eq]
  generalize (lg_sl ([.ref q0, .int sp] : List Value) ++ List.replicate (3 - (lg_sl ([.ref q0, .int sp] : List Value)).length) Slot.unset).toArray = ls at hl ⊢
  have hl : lv_has ls 3 [(0, .ref q0), (1, .int sp)] := hl
  have hE : m_wind svc zs zv sp = m_wind svc zs zv sp := rfl
  refine lv_aload_n hx hb dX9_wind_0 rfl (lv_at hl 0 rfl) ?_
  refine lv_iconst (v := 0) hx hb dX9_wind_1 (by decide) ?_
  refine va_put (D := (dC, dI)) (ci := 9) (v := .int (0 : Int32)) (ty := .int) (C := RX9) (T := TX9) (N := 13) hx hb hts i_X9 tyX9 tyX9_ok nmX9 hown hK hP hD hS 0 rfl rfl 5 (by decide) w_0 (fun _ h9 => h9) rfl (by decide +kernel) (rfl) (rfl) (Nat.le_of_ble_eq_true rfl) dX9_wind_2 (fun H locs hP hD hS => ?_)
  have hP : va_P (dC, dI) vwCl [(q0, .inr (9, [.ref q1, .ref q2, .int svc, .ref q3, .int tl, .int (0 : Int32), .int mm, .int mr, .ref q4, .int ati, .int ors, .ref q5, .ref q6])), (q1, .inl (cyI, 246, .inl zs)), (q2, .inl (cyI, 984, .inl zv)), (q3, .inl (cyI, 80, .inl zt)), (q4, .inl (cyI, 5, .inl zp)), (q5, .inl (cyI, 40, .inl zm)), (q6, .inl (cyI, 40, .inl zk))] H := hP
  have hD : va_D A [(q0, .inr (9, [.ref q1, .ref q2, .int svc, .ref q3, .int tl, .int (0 : Int32), .int mm, .int mr, .ref q4, .int ati, .int ors, .ref q5, .ref q6])), (q1, .inl (cyI, 246, .inl zs)), (q2, .inl (cyI, 984, .inl zv)), (q3, .inl (cyI, 80, .inl zt)), (q4, .inl (cyI, 5, .inl zp)), (q5, .inl (cyI, 40, .inl zm)), (q6, .inl (cyI, 40, .inl zk))] := hD
  refine lv_iload_n hx hb dX9_wind_5 rfl (lv_at hl 1 rfl) ?_
  refine lv_iconst (v := 0) hx hb dX9_wind_6 (by decide) ?_
  refine lv_sipush (v := 1000) hx hb dX9_wind_7 (by decide) ?_
  refine vp_callSi (W.runS (As := [.int sp, .int (0 : Int32), .int (1000 : Int32)]) (rest := []) ⟨hx, hb, hml, hown, hts⟩ (c_X9_in l dC dI cyI sp (0 : Int32) (1000 : Int32)) (va_cwS 3 hts (gBS b_182 b_183 b_5 b_184) rfl rfl rfl (by decide +kernel) ⟨Nat.le_of_ble_eq_true rfl, Nat.le_of_ble_eq_true rfl⟩) (pre_s eM_ok he hS (hP.sub (ws' := []) [] rfl) (hK.sub (tys' := []) [] rfl)) rfl rfl hl.1 rfl (lv_room (Nat.le_of_ble_eq_true rfl)) dX9_wind_10 ⟨Nat.zero_le _, Nat.zero_le _⟩) (fun r_1 hr_1 => ?_)
  obtain ⟨hr_1, hbr_1⟩ := hr_1
  have hE := hE.trans (spLet_eq hr_1)
  refine lv_if_ne (tgt := 22) hx hb dX9_wind_13 (by decide) (fun c_2 => ?_) (fun c_2 => ?_)
  ·
    have hE := hE.trans (if_neg c_2)
    refine lv_aload_n hx hb dX9_wind_22 rfl (lv_at hl 0 rfl) ?_
    refine mj_v (wr := []) (va_runV (As := []) (rest := []) ⟨hx, hb, hml, hown, hts⟩ (c_X9_keep l dC dI cyI H.size q0 q1 q2 q3 q4 q5 q6 svc tl (0 : Int32) mm mr ati ors zs zv zt zp zm zk hsv hs4) (cwV 0 hts (gBV b_193 b_194 b_195 b_5 b_196) rfl rfl rfl (by decide +kernel) ⟨Nat.le_of_ble_eq_true rfl, Nat.le_of_ble_eq_true rfl⟩) (prm_v eM_ok he hS hP hD hK (va_free (wc := [(q0, .inr (9, [.ref q1, .ref q2, .int svc, .ref q3, .int tl, .int (0 : Int32), .int mm, .int mr, .ref q4, .int ati, .int ors, .ref q5, .ref q6])), (q1, .inl (cyI, 246, .inl zs)), (q2, .inl (cyI, 984, .inl zv)), (q3, .inl (cyI, 80, .inl zt)), (q4, .inl (cyI, 5, .inl zp)), (q5, .inl (cyI, 40, .inl zm)), (q6, .inl (cyI, 40, .inl zk))]) hD hS hA [0, 1, 2, 3, 4, 5, 6] rfl) 0 rfl rfl rfl) rfl rfl hl.1 rfl (lv_room (Nat.le_of_ble_eq_true rfl)) dX9_wind_23 ⟨Nat.le_of_ble_eq_true rfl, Nat.le_of_ble_eq_true rfl⟩) hP hD hS hA [0, 1, 2, 3, 4, 5, 6] [] rfl rfl (by decide) (by decide) (fun u_3 H locs hw hP hD hS => ?_)
    have hu_3 := hw
    have hE := hE.trans (spLet_eq hu_3)
    have hP : va_P (dC, dI) vwCl [(q0, .inr (9, [.ref q1, .ref q2, .int (u_3.1), .ref q3, .int tl, .int (0 : Int32), .int mm, .int mr, .ref q4, .int ati, .int ors, .ref q5, .ref q6])), (q1, .inl (cyI, 246, .inl zs)), (q2, .inl (cyI, 984, .inl (u_3.2))), (q3, .inl (cyI, 80, .inl zt)), (q4, .inl (cyI, 5, .inl zp)), (q5, .inl (cyI, 40, .inl zm)), (q6, .inl (cyI, 40, .inl zk))] H := hP
    have hD : va_D A [(q0, .inr (9, [.ref q1, .ref q2, .int (u_3.1), .ref q3, .int tl, .int (0 : Int32), .int mm, .int mr, .ref q4, .int ati, .int ors, .ref q5, .ref q6])), (q1, .inl (cyI, 246, .inl zs)), (q2, .inl (cyI, 984, .inl (u_3.2))), (q3, .inl (cyI, 80, .inl zt)), (q4, .inl (cyI, 5, .inl zp)), (q5, .inl (cyI, 40, .inl zm)), (q6, .inl (cyI, 40, .inl zk))] := hD
    refine lv_iconst (v := 0) hx hb dX9_wind_26 (by decide) ?_
    refine lv_istore_n (lv' := [(2, .int (0 : Int32)), (0, .ref q0), (1, .int sp)]) hx hb dX9_wind_27 rfl hl (by decide) rfl (fun ls hl => ?_)
    have L28 : ∀ (n28 : Nat) (k2_28 : Nat) (w1_a_28 : Nat → Int32) (hi : k2_28 ≤ 3 ∧ 3 < k2_28 + n28) (H : Heap) (locs : List Loc) (hP : va_P (dC, dI) vwCl [(q0, .inr (9, [.ref q1, .ref q2, .int (u_3.1), .ref q3, .int tl, .int (0 : Int32), .int mm, .int mr, .ref q4, .int ati, .int ors, .ref q5, .ref q6])), (q1, .inl (cyI, 246, .inl w1_a_28)), (q2, .inl (cyI, 984, .inl (u_3.2))), (q3, .inl (cyI, 80, .inl zt)), (q4, .inl (cyI, 5, .inl zp)), (q5, .inl (cyI, 40, .inl zm)), (q6, .inl (cyI, 40, .inl zk))] H) (hD : va_D A [(q0, .inr (9, [.ref q1, .ref q2, .int (u_3.1), .ref q3, .int tl, .int (0 : Int32), .int mm, .int mr, .ref q4, .int ati, .int ors, .ref q5, .ref q6])), (q1, .inl (cyI, 246, .inl w1_a_28)), (q2, .inl (cyI, 984, .inl (u_3.2))), (q3, .inl (cyI, 80, .inl zt)), (q4, .inl (cyI, 5, .inl zp)), (q5, .inl (cyI, 40, .inl zm)), (q6, .inl (cyI, 40, .inl zk))]) (hS : va_S A s.heap H locs) (ls : Array Slot) (hl : lv_has ls 3 [(0, .ref q0), (1, .int sp), (2, .int (nI k2_28))]) (hE : (m_wind svc zs zv sp) = spIter (fun _ _ => default) (m_wind_b28 sp u_3) n28 k2_28 w1_a_28), W p l e (headSpec wqX9_wind ({ frames := 2, cells := 0, slots := 0, locals := 43 } : Room)).room s m ([.ref q0, .int sp] : List Value).toArray below meth c H locs 0 0 (MQ below (va_Qi (fun (r : Int32) (u : Int32 × Int32 × Int32 × (Nat → Int32) × (Nat → Int32)) => u = (m_wind svc zs zv sp) ∧ r = u.1) (fun (u : Int32 × Int32 × Int32 × (Nat → Int32) × (Nat → Int32)) t => va_P (dC, dI) vwCl [(q0, .inr (9, [.ref q1, .ref q2, .int (u.2.1), .ref q3, .int tl, .int (u.2.2.1), .int mm, .int mr, .ref q4, .int ati, .int ors, .ref q5, .ref q6])), (q1, .inl (cyI, 246, .inl (u.2.2.2.1))), (q2, .inl (cyI, 984, .inl (u.2.2.2.2))), (q3, .inl (cyI, 80, .inl zt)), (q4, .inl (cyI, 5, .inl zp)), (q5, .inl (cyI, 40, .inl zm)), (q6, .inl (cyI, 40, .inl zk))] t.heap ∧ va_D A [(q0, .inr (9, [.ref q1, .ref q2, .int (u.2.1), .ref q3, .int tl, .int (u.2.2.1), .int mm, .int mr, .ref q4, .int ati, .int ors, .ref q5, .ref q6])), (q1, .inl (cyI, 246, .inl (u.2.2.2.1))), (q2, .inl (cyI, 984, .inl (u.2.2.2.2))), (q3, .inl (cyI, 80, .inl zt)), (q4, .inl (cyI, 5, .inl zp)), (q5, .inl (cyI, 40, .inl zm)), (q6, .inl (cyI, 40, .inl zk))]) A) ([.ref q0, .int sp] : List Value).toArray s 0 0 A) (F0 m 28 ls []) := by
      intro n28
      induction n28 with
      | zero =>
        intro k2_28 w1_a_28 hi H locs hP hD hS ls hl hE
        exact absurd hi (by omega)
      | succ n28 ih28 =>
        intro k2_28 w1_a_28 hi H locs hP hD hS ls hl hE
        have hE : (m_wind svc zs zv sp) = m_wind_b28 sp u_3 (spIter (fun _ _ => default) (m_wind_b28 sp u_3) n28) k2_28 w1_a_28 := hE
        refine lv_iload_n hx hb dX9_wind_28 rfl (lv_at hl 2 rfl) ?_
        refine lv_iconst (v := 3) hx hb dX9_wind_29 (by decide) ?_
        refine lv_icmp_ge (tgt := 59) hx hb dX9_wind_30 (by decide) (fun c_4 => ?_) (fun c_4 => ?_)
        ·
          have c_4 : 3 ≤ k2_28 := by
            have h1 : ((nI k2_28)) = nI k2_28 := rfl
            have h2 : ((3 : Int32)) = nI 3 := rfl
            have h3 : (nI 3 ≤ nI k2_28) := by first | exact c_4 | (rw [← h1, ← h2]; exact c_4)
            exact (nI_leI (by omega) (by omega)).mp h3
          have hE := hE.trans (if_pos c_4)
          refine lv_aload_n hx hb dX9_wind_59 rfl (lv_at hl 0 rfl) ?_
          refine va_get (D := (dC, dI)) (ci := 9) (v := .ref q1) (C := RX9) (T := TX9) (N := 13) hx hb hts i_X9 hown hK hP 0 rfl rfl 0 (by decide) w_1 (fun _ h9 => h9) rfl dX9_wind_60 ?_
          refine lv_bipush (v := 17) hx hb dX9_wind_63 (by decide) ?_
          refine lv_iload_n hx hb dX9_wind_65 rfl (lv_at hl 1 rfl) ?_
          refine ra_st hx hb hK hP hD hS 1 0 rfl rfl (j := 17) (rfl : (17 : Int32) = nI 17) (by omega) (by omega) dX9_wind_66 (fun H locs hP hD hS => ?_)
          have hP : va_P (dC, dI) vwCl [(q0, .inr (9, [.ref q1, .ref q2, .int (u_3.1), .ref q3, .int tl, .int (0 : Int32), .int mm, .int mr, .ref q4, .int ati, .int ors, .ref q5, .ref q6])), (q1, .inl (cyI, 246, .inl (upd w1_a_28 17 sp))), (q2, .inl (cyI, 984, .inl (u_3.2))), (q3, .inl (cyI, 80, .inl zt)), (q4, .inl (cyI, 5, .inl zp)), (q5, .inl (cyI, 40, .inl zm)), (q6, .inl (cyI, 40, .inl zk))] H := hP
          have hD : va_D A [(q0, .inr (9, [.ref q1, .ref q2, .int (u_3.1), .ref q3, .int tl, .int (0 : Int32), .int mm, .int mr, .ref q4, .int ati, .int ors, .ref q5, .ref q6])), (q1, .inl (cyI, 246, .inl (upd w1_a_28 17 sp))), (q2, .inl (cyI, 984, .inl (u_3.2))), (q3, .inl (cyI, 80, .inl zt)), (q4, .inl (cyI, 5, .inl zp)), (q5, .inl (cyI, 40, .inl zm)), (q6, .inl (cyI, 40, .inl zk))] := hD
          obtain ⟨f_5, ef_5⟩ : ∃ y : Nat → Int32, y = upd w1_a_28 17 sp := ⟨_, rfl⟩
          rw [← ef_5] at hP hD
          have hE := hE.trans (spLet_eq ef_5)
          refine lv_aload_n hx hb dX9_wind_67 rfl (lv_at hl 0 rfl) ?_
          refine vp_callSi (W.runV (As := []) (rest := []) ⟨hx, hb, hml, hown, hts⟩ (c_X9_windNow l dC dI cyI q0 q1 q2 q3 q4 q5 q6 (u_3.1) tl (0 : Int32) mm mr ati ors f_5 (u_3.2) zt zp zm zk) (cwV 0 hts (gBV b_422 b_423 b_424 b_5 b_425) rfl rfl rfl (by decide +kernel) ⟨Nat.le_of_ble_eq_true rfl, Nat.le_of_ble_eq_true rfl⟩) (pre_v eM_ok he hS hP hK 0 rfl rfl rfl) rfl rfl hl.1 rfl (lv_room (Nat.le_of_ble_eq_true rfl)) dX9_wind_68 ⟨Nat.zero_le _, Nat.zero_le _⟩) (fun r_6 hr_6 => ?_)
          have hE := hE.trans (spLet_eq hr_6)
          exact W.iret (v := r_6) hx hb hr (fun t h9 hW => ⟨⟨r_6, ((r_6, (u_3.1), (0 : Int32), f_5, (u_3.2)) : Int32 × Int32 × Int32 × (Nat → Int32) × (Nat → Int32)), rfl, ⟨hE.symm, rfl⟩, by rw [h9]; exact hP, hD⟩, hS.F h9⟩) hS.2.2 dX9_wind_71
        ·
          have c_4 : ¬ 3 ≤ k2_28 := by
            have h1 : ((nI k2_28)) = nI k2_28 := rfl
            have h2 : ((3 : Int32)) = nI 3 := rfl
            have h3 : ¬ (nI 3 ≤ nI k2_28) := by first | exact c_4 | (rw [← h1, ← h2]; exact c_4)
            exact fun h => h3 ((nI_leI (by omega) (by omega)).mpr h)
          have hE := hE.trans (if_neg c_4)
          refine lv_aload_n hx hb dX9_wind_33 rfl (lv_at hl 0 rfl) ?_
          refine va_get (D := (dC, dI)) (ci := 9) (v := .ref q1) (C := RX9) (T := TX9) (N := 13) hx hb hts i_X9 hown hK hP 0 rfl rfl 0 (by decide) w_1 (fun _ h9 => h9) rfl dX9_wind_34 ?_
          refine lv_bipush (v := 14) hx hb dX9_wind_37 (by decide) ?_
          refine lv_iload_n hx hb dX9_wind_39 rfl (lv_at hl 2 rfl) ?_
          refine lv_iadd hx hb dX9_wind_40 ?_
          refine lv_topi (fun y_7 ey_7 => ?_)
          obtain rfl : y_7 = nI (14 + k2_28) := ey_7.trans (nadd (rfl : (14 : Int32) = nI 14) (rfl : (nI k2_28) = nI k2_28))
          refine lv_aload_n hx hb dX9_wind_41 rfl (lv_at hl 0 rfl) ?_
          refine va_get (D := (dC, dI)) (ci := 9) (v := .ref q1) (C := RX9) (T := TX9) (N := 13) hx hb hts i_X9 hown hK hP 0 rfl rfl 0 (by decide) w_1 (fun _ h9 => h9) rfl dX9_wind_42 ?_
          refine lv_bipush (v := 14) hx hb dX9_wind_45 (by decide) ?_
          refine lv_iload_n hx hb dX9_wind_47 rfl (lv_at hl 2 rfl) ?_
          refine lv_iadd hx hb dX9_wind_48 ?_
          refine lv_topi (fun y_8 ey_8 => ?_)
          obtain rfl : y_8 = nI (14 + k2_28) := ey_8.trans (nadd (rfl : (14 : Int32) = nI 14) (rfl : (nI k2_28) = nI k2_28))
          refine lv_iconst (v := 1) hx hb dX9_wind_49 (by decide) ?_
          refine lv_iadd hx hb dX9_wind_50 ?_
          refine ra_ld hx hb hK hP 1 0 rfl rfl (j := ((14 + k2_28) + 1)) (nadd (rfl : (nI (14 + k2_28)) = nI (14 + k2_28)) (rfl : (1 : Int32) = nI 1)) (by omega) (by omega) dX9_wind_51 ?_
          refine lv_topi (fun x_9 ex_9 => ?_)
          have hE := hE.trans (spLet_eq ex_9)
          refine ra_st hx hb hK hP hD hS 1 0 rfl rfl (j := (14 + k2_28)) (rfl : (nI (14 + k2_28)) = nI (14 + k2_28)) (by omega) (by omega) dX9_wind_52 (fun H locs hP hD hS => ?_)
          have hP : va_P (dC, dI) vwCl [(q0, .inr (9, [.ref q1, .ref q2, .int (u_3.1), .ref q3, .int tl, .int (0 : Int32), .int mm, .int mr, .ref q4, .int ati, .int ors, .ref q5, .ref q6])), (q1, .inl (cyI, 246, .inl (upd w1_a_28 (14 + k2_28) x_9))), (q2, .inl (cyI, 984, .inl (u_3.2))), (q3, .inl (cyI, 80, .inl zt)), (q4, .inl (cyI, 5, .inl zp)), (q5, .inl (cyI, 40, .inl zm)), (q6, .inl (cyI, 40, .inl zk))] H := hP
          have hD : va_D A [(q0, .inr (9, [.ref q1, .ref q2, .int (u_3.1), .ref q3, .int tl, .int (0 : Int32), .int mm, .int mr, .ref q4, .int ati, .int ors, .ref q5, .ref q6])), (q1, .inl (cyI, 246, .inl (upd w1_a_28 (14 + k2_28) x_9))), (q2, .inl (cyI, 984, .inl (u_3.2))), (q3, .inl (cyI, 80, .inl zt)), (q4, .inl (cyI, 5, .inl zp)), (q5, .inl (cyI, 40, .inl zm)), (q6, .inl (cyI, 40, .inl zk))] := hD
          obtain ⟨f_10, ef_10⟩ : ∃ y : Nat → Int32, y = upd w1_a_28 (14 + k2_28) x_9 := ⟨_, rfl⟩
          rw [← ef_10] at hP hD
          have hE := hE.trans (spLet_eq ef_10)
          refine lv_iinc (v := (nI (k2_28 + 1))) (lv' := [(2, .int (nI (k2_28 + 1))), (0, .ref q0), (1, .int sp)]) hx hb dX9_wind_53 hl (k := 2) rfl (show _ from (congrArg (fun z => z + Int32.ofInt 1) (rfl)).trans (ninc _ 1)) (by decide) rfl (fun ls hl => ?_)
          refine lv_goto (tgt := 28) hx hb dX9_wind_56 (by decide) ?_
          exact ih28 (k2_28 + 1) f_10 (by omega) _ _ hP hD hS ls (lv_sub hl [1, 2, 0] rfl) hE
    exact L28 4 0 zs (by omega) _ _ hP hD hS ls (lv_sub hl [1, 2, 0] rfl) hE
  ·
    have hE := hE.trans (if_pos c_2)
    refine lv_aload_n hx hb dX9_wind_16 rfl (lv_at hl 0 rfl) ?_
    refine lv_iconst (v := 1) hx hb dX9_wind_17 (by decide) ?_
    refine mj_i (wr := []) (va_runV (As := [.int (1 : Int32)]) (rest := []) ⟨hx, hb, hml, hown, hts⟩ (c_X9_fails l dC dI cyI H.size q0 q1 q2 q3 q4 q5 q6 svc tl (0 : Int32) mm mr ati ors zs zv zt zp zm zk (1 : Int32)) (cwV 1 hts (gBV b_185 b_186 b_187 b_5 b_188) rfl rfl rfl (by decide +kernel) ⟨Nat.le_of_ble_eq_true rfl, Nat.le_of_ble_eq_true rfl⟩) (prm_v eM_ok he hS hP hD hK (va_free (wc := [(q0, .inr (9, [.ref q1, .ref q2, .int svc, .ref q3, .int tl, .int (0 : Int32), .int mm, .int mr, .ref q4, .int ati, .int ors, .ref q5, .ref q6])), (q1, .inl (cyI, 246, .inl zs)), (q2, .inl (cyI, 984, .inl zv)), (q3, .inl (cyI, 80, .inl zt)), (q4, .inl (cyI, 5, .inl zp)), (q5, .inl (cyI, 40, .inl zm)), (q6, .inl (cyI, 40, .inl zk))]) hD hS hA [0, 1, 2, 3, 4, 5, 6] rfl) 0 rfl rfl rfl) rfl rfl hl.1 rfl (lv_room (Nat.le_of_ble_eq_true rfl)) dX9_wind_18 ⟨Nat.le_of_ble_eq_true rfl, Nat.le_of_ble_eq_true rfl⟩) hP hD hS hA [0, 1, 2, 3, 4, 5, 6] [] rfl rfl (by decide) (by decide) (fun r_12 u_11 H locs hw hP hD hS => ?_)
    obtain ⟨hu_11, rfl⟩ := hw
    have hE := hE.trans (spLet_eq hu_11)
    have hP : va_P (dC, dI) vwCl [(q0, .inr (9, [.ref q1, .ref q2, .int svc, .ref q3, .int tl, .int (u_11.2), .int mm, .int mr, .ref q4, .int ati, .int ors, .ref q5, .ref q6])), (q1, .inl (cyI, 246, .inl zs)), (q2, .inl (cyI, 984, .inl zv)), (q3, .inl (cyI, 80, .inl zt)), (q4, .inl (cyI, 5, .inl zp)), (q5, .inl (cyI, 40, .inl zm)), (q6, .inl (cyI, 40, .inl zk))] H := hP
    have hD : va_D A [(q0, .inr (9, [.ref q1, .ref q2, .int svc, .ref q3, .int tl, .int (u_11.2), .int mm, .int mr, .ref q4, .int ati, .int ors, .ref q5, .ref q6])), (q1, .inl (cyI, 246, .inl zs)), (q2, .inl (cyI, 984, .inl zv)), (q3, .inl (cyI, 80, .inl zt)), (q4, .inl (cyI, 5, .inl zp)), (q5, .inl (cyI, 40, .inl zm)), (q6, .inl (cyI, 40, .inl zk))] := hD
    exact W.iret (v := (u_11.1)) hx hb hr (fun t h9 hW => ⟨⟨(u_11.1), (((u_11.1), svc, (u_11.2), zs, zv) : Int32 × Int32 × Int32 × (Nat → Int32) × (Nat → Int32)), rfl, ⟨hE.symm, rfl⟩, by rw [h9]; exact hP, hD⟩, hS.F h9⟩) hS.2.2 dX9_wind_21
def m_addZone_j50 (svc : Int32) (zs : Nat → Int32) (zv : Nat → Int32) : Int32 × Int32 × Int32 × (Nat → Int32) × (Nat → Int32) :=
  spLet (m_fails (1 : Int32)) (fun u_3 => ((u_3.1), svc, (u_3.2), zs, zv))
def m_addZone (svc : Int32) (zs : Nat → Int32) (zv : Nat → Int32) (fr : Int32) (to : Int32) (ra : Int32) (hei : Int32) : Int32 × Int32 × Int32 × (Nat → Int32) × (Nat → Int32) :=
  spLet (m_in fr (0 : Int32) (3599 : Int32)) (fun r_1 => if r_1 = 0 then (m_addZone_j50 svc zs zv) else (spLet (m_in to (0 : Int32) (3599 : Int32)) (fun r_5 => if r_5 = 0 then (m_addZone_j50 svc zs zv) else (spLet (m_in ra (0 : Int32) (10000 : Int32)) (fun r_7 => if r_7 = 0 then (m_addZone_j50 svc zs zv) else (spLet (m_in hei (0 : Int32) (10000 : Int32)) (fun r_9 => if r_9 = 0 then (m_addZone_j50 svc zs zv) else (if (zs 18).toNatClampNeg = 6 then (spLet (m_fails (2 : Int32)) (fun u_23 => ((u_23.1), svc, (u_23.2), zs, zv))) else (spLet (m_keep svc zs zv) (fun u_12 => spLet (upd zs (19 + (4 * (zs 18).toNatClampNeg)) fr) (fun f_14 => spLet (upd f_14 ((19 + (4 * (zs 18).toNatClampNeg)) + 1) to) (fun f_16 => spLet (upd f_16 ((19 + (4 * (zs 18).toNatClampNeg)) + 2) ra) (fun f_18 => spLet (upd f_18 ((19 + (4 * (zs 18).toNatClampNeg)) + 3) hei) (fun f_20 => spLet (((f_20 18) + (1 : Int32))) (fun x_21 => spLet (upd f_20 18 x_21) (fun f_22 => ((f_22 18), (u_12.1), (0 : Int32), f_22, (u_12.2))))))))))))))))))
set_option maxHeartbeats 1000000 in
set_option maxRecDepth 100000 in
theorem c_X9_addZone (l : Launch) (dC : Nat → ClassId) (dI : Nat → Nat → Nat) (cyI : ClassId) (sz : Nat) (q0 : Nat) (q1 : Nat) (q2 : Nat) (q3 : Nat) (q4 : Nat) (q5 : Nat) (q6 : Nat) (svc : Int32) (tl : Int32) (cde : Int32) (mm : Int32) (mr : Int32) (ati : Int32) (ors : Int32) (zs : Nat → Int32) (zv : Nat → Int32) (zt : Nat → Int32) (zp : Nat → Int32) (zm : Nat → Int32) (zk : Nat → Int32) (fr : Int32) (to : Int32) (ra : Int32) (hei : Int32) (hsv : svc = nI svc.toNatClampNeg) (hs4 : svc.toNatClampNeg ≤ 4) (hG : mG zs) : Met l yX9_addZone wqX9_addZone ({ frames := 1, cells := 0, slots := 0, locals := 22 } : Room) (va_Pc [.ref q0, .int fr, .int to, .int ra, .int hei] (pC (dC, dI) [(q0, .inr (9, [.ref q1, .ref q2, .int svc, .ref q3, .int tl, .int cde, .int mm, .int mr, .ref q4, .int ati, .int ors, .ref q5, .ref q6])), (q1, .inl (cyI, 246, .inl zs)), (q2, .inl (cyI, 984, .inl zv)), (q3, .inl (cyI, 80, .inl zt)), (q4, .inl (cyI, 5, .inl zp)), (q5, .inl (cyI, 40, .inl zm)), (q6, .inl (cyI, 40, .inl zk))] [(cyI, .int)] eM sz)) (va_Qi (fun (r : Int32) (u : Int32 × Int32 × Int32 × (Nat → Int32) × (Nat → Int32)) => u = (m_addZone svc zs zv fr to ra hei) ∧ r = u.1) (fun (u : Int32 × Int32 × Int32 × (Nat → Int32) × (Nat → Int32)) t => va_P (dC, dI) vwCl [(q0, .inr (9, [.ref q1, .ref q2, .int (u.2.1), .ref q3, .int tl, .int (u.2.2.1), .int mm, .int mr, .ref q4, .int ati, .int ors, .ref q5, .ref q6])), (q1, .inl (cyI, 246, .inl (u.2.2.2.1))), (q2, .inl (cyI, 984, .inl (u.2.2.2.2))), (q3, .inl (cyI, 80, .inl zt)), (q4, .inl (cyI, 5, .inl zp)), (q5, .inl (cyI, 40, .inl zm)), (q6, .inl (cyI, 40, .inl zk))] t.heap ∧ va_D (va_A [(q0, .inr (9, [.ref q1, .ref q2, .int svc, .ref q3, .int tl, .int cde, .int mm, .int mr, .ref q4, .int ati, .int ors, .ref q5, .ref q6])), (q1, .inl (cyI, 246, .inl zs)), (q2, .inl (cyI, 984, .inl zv)), (q3, .inl (cyI, 80, .inl zt)), (q4, .inl (cyI, 5, .inl zp)), (q5, .inl (cyI, 40, .inl zm)), (q6, .inl (cyI, 40, .inl zk))] sz) [(q0, .inr (9, [.ref q1, .ref q2, .int (u.2.1), .ref q3, .int tl, .int (u.2.2.1), .int mm, .int mr, .ref q4, .int ati, .int ors, .ref q5, .ref q6])), (q1, .inl (cyI, 246, .inl (u.2.2.2.1))), (q2, .inl (cyI, 984, .inl (u.2.2.2.2))), (q3, .inl (cyI, 80, .inl zt)), (q4, .inl (cyI, 5, .inl zp)), (q5, .inl (cyI, 40, .inl zm)), (q6, .inl (cyI, 40, .inl zk))]) (va_A [(q0, .inr (9, [.ref q1, .ref q2, .int svc, .ref q3, .int tl, .int cde, .int mm, .int mr, .ref q4, .int ati, .int ors, .ref q5, .ref q6])), (q1, .inl (cyI, 246, .inl zs)), (q2, .inl (cyI, 984, .inl zv)), (q3, .inl (cyI, 80, .inl zt)), (q4, .inl (cyI, 5, .inl zp)), (q5, .inl (cyI, 40, .inl zm)), (q6, .inl (cyI, 40, .inl zk))] sz)) 0 0 (va_A [(q0, .inr (9, [.ref q1, .ref q2, .int svc, .ref q3, .int tl, .int cde, .int mm, .int mr, .ref q4, .int ati, .int ors, .ref q5, .ref q6])), (q1, .inl (cyI, 246, .inl zs)), (q2, .inl (cyI, 984, .inl zv)), (q3, .inl (cyI, 80, .inl zt)), (q4, .inl (cyI, 5, .inl zp)), (q5, .inl (cyI, 40, .inl zm)), (q6, .inl (cyI, 40, .inl zk))] sz) := by
  refine Met.ofW (cc := cX9_addZone) (maxL := 6) (ret := (some .int)) (by decide) rfl ?_
  intro p e s m args below meth c s₁ B hml hv
  obtain ⟨rfl, hsz, hP, hK, hD0, he⟩ := hv
  have hx := B.exec
  have hb := B.bytes
  have hr := B.returns
  have hts := atoms_spec (ws := wqX9_addZone) B.pre
  have hown : s.vm.findClass RX9 = some m.cls := findClass_of_methodNamed B.named
  have hlocks := B.notSynchronized
  have w_0 := hts (Cond.fieldLink RX9 28 "CraneLimiterModel" "code" "I") (List.mem_cons_of_mem _ b_181)
  have w_1 := hts (Cond.fieldLink RX9 7 "CraneLimiterModel" "s" "[I") (List.mem_cons_of_mem _ b_93)
  have i_X9 : ∀ w ∈ u_ws RX9 TX9 13, w ∈ wqX9_addZone := fun w h => List.mem_cons_of_mem _ (bX9 w h)
  subst hsz
  have hD := hD0.self (sz := s.heap.size)
  generalize hAe : va_A [(q0, .inr (9, [.ref q1, .ref q2, .int svc, .ref q3, .int tl, .int cde, .int mm, .int mr, .ref q4, .int ati, .int ors, .ref q5, .ref q6])), (q1, .inl (cyI, 246, .inl zs)), (q2, .inl (cyI, 984, .inl zv)), (q3, .inl (cyI, 80, .inl zt)), (q4, .inl (cyI, 5, .inl zp)), (q5, .inl (cyI, 40, .inl zm)), (q6, .inl (cyI, 40, .inl zk))] s.heap.size = A at hD he ⊢
  have hA : ∀ q : Nat, s.heap.size ≤ q → A q := fun q h => by rw [← hAe]; exact Or.inr h
  have hS : va_S A s.heap s.heap [] := va_S.rf
  have hP : va_P (dC, dI) vwCl [(q0, .inr (9, [.ref q1, .ref q2, .int svc, .ref q3, .int tl, .int cde, .int mm, .int mr, .ref q4, .int ati, .int ors, .ref q5, .ref q6])), (q1, .inl (cyI, 246, .inl zs)), (q2, .inl (cyI, 984, .inl zv)), (q3, .inl (cyI, 80, .inl zt)), (q4, .inl (cyI, 5, .inl zp)), (q5, .inl (cyI, 40, .inl zm)), (q6, .inl (cyI, 40, .inl zk))] s.heap := hP
  have hl := lv_entry ([.ref q0, .int fr, .int to, .int ra, .int hei] : List Value) (n := 6) (Nat.le_of_ble_eq_true rfl)
  rw [lg_entry_eq]
  generalize (lg_sl ([.ref q0, .int fr, .int to, .int ra, .int hei] : List Value) ++ List.replicate (6 - (lg_sl ([.ref q0, .int fr, .int to, .int ra, .int hei] : List Value)).length) Slot.unset).toArray = ls at hl ⊢
  have hl : lv_has ls 6 [(0, .ref q0), (1, .int fr), (2, .int to), (3, .int ra), (4, .int hei)] := hl
  have hE : m_addZone svc zs zv fr to ra hei = m_addZone svc zs zv fr to ra hei := rfl
  have hz := hG.zones.1
  have hz6 := hG.zones.2
  refine lv_aload_n hx hb dX9_addZone_0 rfl (lv_at hl 0 rfl) ?_
  refine lv_iconst (v := 0) hx hb dX9_addZone_1 (by decide) ?_
  refine va_put (D := (dC, dI)) (ci := 9) (v := .int (0 : Int32)) (ty := .int) (C := RX9) (T := TX9) (N := 13) hx hb hts i_X9 tyX9 tyX9_ok nmX9 hown hK hP hD hS 0 rfl rfl 5 (by decide) w_0 (fun _ h9 => h9) rfl (by decide +kernel) (rfl) (rfl) (Nat.le_of_ble_eq_true rfl) dX9_addZone_2 (fun H locs hP hD hS => ?_)
  have hP : va_P (dC, dI) vwCl [(q0, .inr (9, [.ref q1, .ref q2, .int svc, .ref q3, .int tl, .int (0 : Int32), .int mm, .int mr, .ref q4, .int ati, .int ors, .ref q5, .ref q6])), (q1, .inl (cyI, 246, .inl zs)), (q2, .inl (cyI, 984, .inl zv)), (q3, .inl (cyI, 80, .inl zt)), (q4, .inl (cyI, 5, .inl zp)), (q5, .inl (cyI, 40, .inl zm)), (q6, .inl (cyI, 40, .inl zk))] H := hP
  have hD : va_D A [(q0, .inr (9, [.ref q1, .ref q2, .int svc, .ref q3, .int tl, .int (0 : Int32), .int mm, .int mr, .ref q4, .int ati, .int ors, .ref q5, .ref q6])), (q1, .inl (cyI, 246, .inl zs)), (q2, .inl (cyI, 984, .inl zv)), (q3, .inl (cyI, 80, .inl zt)), (q4, .inl (cyI, 5, .inl zp)), (q5, .inl (cyI, 40, .inl zm)), (q6, .inl (cyI, 40, .inl zk))] := hD
  refine lv_iload_n hx hb dX9_addZone_5 rfl (lv_at hl 1 rfl) ?_
  refine lv_iconst (v := 0) hx hb dX9_addZone_6 (by decide) ?_
  refine lv_sipush (v := 3599) hx hb dX9_addZone_7 (by decide) ?_
  refine vp_callSi (W.runS (As := [.int fr, .int (0 : Int32), .int (3599 : Int32)]) (rest := []) ⟨hx, hb, hml, hown, hts⟩ (c_X9_in l dC dI cyI fr (0 : Int32) (3599 : Int32)) (va_cwS 3 hts (gBS b_182 b_183 b_5 b_184) rfl rfl rfl (by decide +kernel) ⟨Nat.le_of_ble_eq_true rfl, Nat.le_of_ble_eq_true rfl⟩) (pre_s eM_ok he hS (hP.sub (ws' := []) [] rfl) (hK.sub (tys' := []) [] rfl)) rfl rfl hl.1 rfl (lv_room (Nat.le_of_ble_eq_true rfl)) dX9_addZone_10 ⟨Nat.zero_le _, Nat.zero_le _⟩) (fun r_1 hr_1 => ?_)
  obtain ⟨hr_1, hbr_1⟩ := hr_1
  have hE := hE.trans (spLet_eq hr_1)
  have J50 : ∀ (ls : Array Slot) (hl : lv_has ls 6 [(0, .ref q0)]) (hE : (m_addZone svc zs zv fr to ra hei) = m_addZone_j50 svc zs zv), W p l e (headSpec wqX9_addZone ({ frames := 1, cells := 0, slots := 0, locals := 22 } : Room)).room s m ([.ref q0, .int fr, .int to, .int ra, .int hei] : List Value).toArray below meth c H locs 0 0 (MQ below (va_Qi (fun (r : Int32) (u : Int32 × Int32 × Int32 × (Nat → Int32) × (Nat → Int32)) => u = (m_addZone svc zs zv fr to ra hei) ∧ r = u.1) (fun (u : Int32 × Int32 × Int32 × (Nat → Int32) × (Nat → Int32)) t => va_P (dC, dI) vwCl [(q0, .inr (9, [.ref q1, .ref q2, .int (u.2.1), .ref q3, .int tl, .int (u.2.2.1), .int mm, .int mr, .ref q4, .int ati, .int ors, .ref q5, .ref q6])), (q1, .inl (cyI, 246, .inl (u.2.2.2.1))), (q2, .inl (cyI, 984, .inl (u.2.2.2.2))), (q3, .inl (cyI, 80, .inl zt)), (q4, .inl (cyI, 5, .inl zp)), (q5, .inl (cyI, 40, .inl zm)), (q6, .inl (cyI, 40, .inl zk))] t.heap ∧ va_D A [(q0, .inr (9, [.ref q1, .ref q2, .int (u.2.1), .ref q3, .int tl, .int (u.2.2.1), .int mm, .int mr, .ref q4, .int ati, .int ors, .ref q5, .ref q6])), (q1, .inl (cyI, 246, .inl (u.2.2.2.1))), (q2, .inl (cyI, 984, .inl (u.2.2.2.2))), (q3, .inl (cyI, 80, .inl zt)), (q4, .inl (cyI, 5, .inl zp)), (q5, .inl (cyI, 40, .inl zm)), (q6, .inl (cyI, 40, .inl zk))]) A) ([.ref q0, .int fr, .int to, .int ra, .int hei] : List Value).toArray s 0 0 A) (F0 m 50 ls []) := by
    intro ls hl hE
    refine lv_aload_n hx hb dX9_addZone_50 rfl (lv_at hl 0 rfl) ?_
    refine lv_iconst (v := 1) hx hb dX9_addZone_51 (by decide) ?_
    refine mj_i (wr := []) (va_runV (As := [.int (1 : Int32)]) (rest := []) ⟨hx, hb, hml, hown, hts⟩ (c_X9_fails l dC dI cyI H.size q0 q1 q2 q3 q4 q5 q6 svc tl (0 : Int32) mm mr ati ors zs zv zt zp zm zk (1 : Int32)) (cwV 1 hts (gBV b_185 b_186 b_187 b_5 b_188) rfl rfl rfl (by decide +kernel) ⟨Nat.le_of_ble_eq_true rfl, Nat.le_of_ble_eq_true rfl⟩) (prm_v eM_ok he hS hP hD hK (va_free (wc := [(q0, .inr (9, [.ref q1, .ref q2, .int svc, .ref q3, .int tl, .int (0 : Int32), .int mm, .int mr, .ref q4, .int ati, .int ors, .ref q5, .ref q6])), (q1, .inl (cyI, 246, .inl zs)), (q2, .inl (cyI, 984, .inl zv)), (q3, .inl (cyI, 80, .inl zt)), (q4, .inl (cyI, 5, .inl zp)), (q5, .inl (cyI, 40, .inl zm)), (q6, .inl (cyI, 40, .inl zk))]) hD hS hA [0, 1, 2, 3, 4, 5, 6] rfl) 0 rfl rfl rfl) rfl rfl hl.1 rfl (lv_room (Nat.le_of_ble_eq_true rfl)) dX9_addZone_52 ⟨Nat.le_of_ble_eq_true rfl, Nat.le_of_ble_eq_true rfl⟩) hP hD hS hA [0, 1, 2, 3, 4, 5, 6] [] rfl rfl (by decide) (by decide) (fun r_4 u_3 H locs hw hP hD hS => ?_)
    obtain ⟨hu_3, rfl⟩ := hw
    have hE := hE.trans (spLet_eq hu_3)
    have hP : va_P (dC, dI) vwCl [(q0, .inr (9, [.ref q1, .ref q2, .int svc, .ref q3, .int tl, .int (u_3.2), .int mm, .int mr, .ref q4, .int ati, .int ors, .ref q5, .ref q6])), (q1, .inl (cyI, 246, .inl zs)), (q2, .inl (cyI, 984, .inl zv)), (q3, .inl (cyI, 80, .inl zt)), (q4, .inl (cyI, 5, .inl zp)), (q5, .inl (cyI, 40, .inl zm)), (q6, .inl (cyI, 40, .inl zk))] H := hP
    have hD : va_D A [(q0, .inr (9, [.ref q1, .ref q2, .int svc, .ref q3, .int tl, .int (u_3.2), .int mm, .int mr, .ref q4, .int ati, .int ors, .ref q5, .ref q6])), (q1, .inl (cyI, 246, .inl zs)), (q2, .inl (cyI, 984, .inl zv)), (q3, .inl (cyI, 80, .inl zt)), (q4, .inl (cyI, 5, .inl zp)), (q5, .inl (cyI, 40, .inl zm)), (q6, .inl (cyI, 40, .inl zk))] := hD
    exact W.iret (v := (u_3.1)) hx hb hr (fun t h9 hW => ⟨⟨(u_3.1), (((u_3.1), svc, (u_3.2), zs, zv) : Int32 × Int32 × Int32 × (Nat → Int32) × (Nat → Int32)), rfl, ⟨hE.symm, rfl⟩, by rw [h9]; exact hP, hD⟩, hS.F h9⟩) hS.2.2 dX9_addZone_55
  refine lv_if_eq (tgt := 50) hx hb dX9_addZone_13 (by decide) (fun c_2 => ?_) (fun c_2 => ?_)
  ·
    have hE := hE.trans (if_pos c_2)
    exact J50 ls (lv_sub hl [0] rfl) hE
  ·
    have hE := hE.trans (if_neg c_2)
    refine lv_iload_n hx hb dX9_addZone_16 rfl (lv_at hl 2 rfl) ?_
    refine lv_iconst (v := 0) hx hb dX9_addZone_17 (by decide) ?_
    refine lv_sipush (v := 3599) hx hb dX9_addZone_18 (by decide) ?_
    refine vp_callSi (W.runS (As := [.int to, .int (0 : Int32), .int (3599 : Int32)]) (rest := []) ⟨hx, hb, hml, hown, hts⟩ (c_X9_in l dC dI cyI to (0 : Int32) (3599 : Int32)) (va_cwS 3 hts (gBS b_182 b_183 b_5 b_184) rfl rfl rfl (by decide +kernel) ⟨Nat.le_of_ble_eq_true rfl, Nat.le_of_ble_eq_true rfl⟩) (pre_s eM_ok he hS (hP.sub (ws' := []) [] rfl) (hK.sub (tys' := []) [] rfl)) rfl rfl hl.1 rfl (lv_room (Nat.le_of_ble_eq_true rfl)) dX9_addZone_21 ⟨Nat.zero_le _, Nat.zero_le _⟩) (fun r_5 hr_5 => ?_)
    obtain ⟨hr_5, hbr_5⟩ := hr_5
    have hE := hE.trans (spLet_eq hr_5)
    refine lv_if_eq (tgt := 50) hx hb dX9_addZone_24 (by decide) (fun c_6 => ?_) (fun c_6 => ?_)
    ·
      have hE := hE.trans (if_pos c_6)
      exact J50 ls (lv_sub hl [0] rfl) hE
    ·
      have hE := hE.trans (if_neg c_6)
      refine lv_iload_n hx hb dX9_addZone_27 rfl (lv_at hl 3 rfl) ?_
      refine lv_iconst (v := 0) hx hb dX9_addZone_28 (by decide) ?_
      refine lv_sipush (v := 10000) hx hb dX9_addZone_29 (by decide) ?_
      refine vp_callSi (W.runS (As := [.int ra, .int (0 : Int32), .int (10000 : Int32)]) (rest := []) ⟨hx, hb, hml, hown, hts⟩ (c_X9_in l dC dI cyI ra (0 : Int32) (10000 : Int32)) (va_cwS 3 hts (gBS b_182 b_183 b_5 b_184) rfl rfl rfl (by decide +kernel) ⟨Nat.le_of_ble_eq_true rfl, Nat.le_of_ble_eq_true rfl⟩) (pre_s eM_ok he hS (hP.sub (ws' := []) [] rfl) (hK.sub (tys' := []) [] rfl)) rfl rfl hl.1 rfl (lv_room (Nat.le_of_ble_eq_true rfl)) dX9_addZone_32 ⟨Nat.zero_le _, Nat.zero_le _⟩) (fun r_7 hr_7 => ?_)
      obtain ⟨hr_7, hbr_7⟩ := hr_7
      have hE := hE.trans (spLet_eq hr_7)
      refine lv_if_eq (tgt := 50) hx hb dX9_addZone_35 (by decide) (fun c_8 => ?_) (fun c_8 => ?_)
      ·
        have hE := hE.trans (if_pos c_8)
        exact J50 ls (lv_sub hl [0] rfl) hE
      ·
        have hE := hE.trans (if_neg c_8)
        refine lv_iload hx hb dX9_addZone_38 (lv_at hl 4 rfl) ?_
        refine lv_iconst (v := 0) hx hb dX9_addZone_40 (by decide) ?_
        refine lv_sipush (v := 10000) hx hb dX9_addZone_41 (by decide) ?_
        refine vp_callSi (W.runS (As := [.int hei, .int (0 : Int32), .int (10000 : Int32)]) (rest := []) ⟨hx, hb, hml, hown, hts⟩ (c_X9_in l dC dI cyI hei (0 : Int32) (10000 : Int32)) (va_cwS 3 hts (gBS b_182 b_183 b_5 b_184) rfl rfl rfl (by decide +kernel) ⟨Nat.le_of_ble_eq_true rfl, Nat.le_of_ble_eq_true rfl⟩) (pre_s eM_ok he hS (hP.sub (ws' := []) [] rfl) (hK.sub (tys' := []) [] rfl)) rfl rfl hl.1 rfl (lv_room (Nat.le_of_ble_eq_true rfl)) dX9_addZone_44 ⟨Nat.zero_le _, Nat.zero_le _⟩) (fun r_9 hr_9 => ?_)
        obtain ⟨hr_9, hbr_9⟩ := hr_9
        have hE := hE.trans (spLet_eq hr_9)
        refine lv_if_ne (tgt := 56) hx hb dX9_addZone_47 (by decide) (fun c_10 => ?_) (fun c_10 => ?_)
        ·
          have hE := hE.trans (if_neg c_10)
          refine lv_aload_n hx hb dX9_addZone_56 rfl (lv_at hl 0 rfl) ?_
          refine va_get (D := (dC, dI)) (ci := 9) (v := .ref q1) (C := RX9) (T := TX9) (N := 13) hx hb hts i_X9 hown hK hP 0 rfl rfl 0 (by decide) w_1 (fun _ h9 => h9) rfl dX9_addZone_57 ?_
          refine lv_bipush (v := 18) hx hb dX9_addZone_60 (by decide) ?_
          refine ra_ld hx hb hK hP 1 0 rfl rfl (j := 18) (rfl : (18 : Int32) = nI 18) (by omega) (by omega) dX9_addZone_62 ?_
          refine lv_bipush (v := 6) hx hb dX9_addZone_63 (by decide) ?_
          refine lv_icmp_ne (tgt := 74) hx hb dX9_addZone_65 (by decide) (fun c_11 => ?_) (fun c_11 => ?_)
          ·
            have c_11 : ¬ (zs 18).toNatClampNeg = 6 := by
              have h1 : ((zs 18)) = nI ((zs 18).toNatClampNeg) := hz
              have h2 : ((6 : Int32)) = nI 6 := rfl
              have h3 : ¬ (nI ((zs 18).toNatClampNeg) = nI 6) := by first | exact c_11 | (rw [← h1, ← h2]; exact c_11)
              exact fun h => h3 ((nI_eq (by omega) (by omega)).mpr h)
            have hE := hE.trans (if_neg c_11)
            refine lv_aload_n hx hb dX9_addZone_74 rfl (lv_at hl 0 rfl) ?_
            refine mj_v (wr := []) (va_runV (As := []) (rest := []) ⟨hx, hb, hml, hown, hts⟩ (c_X9_keep l dC dI cyI H.size q0 q1 q2 q3 q4 q5 q6 svc tl (0 : Int32) mm mr ati ors zs zv zt zp zm zk hsv hs4) (cwV 0 hts (gBV b_193 b_194 b_195 b_5 b_196) rfl rfl rfl (by decide +kernel) ⟨Nat.le_of_ble_eq_true rfl, Nat.le_of_ble_eq_true rfl⟩) (prm_v eM_ok he hS hP hD hK (va_free (wc := [(q0, .inr (9, [.ref q1, .ref q2, .int svc, .ref q3, .int tl, .int (0 : Int32), .int mm, .int mr, .ref q4, .int ati, .int ors, .ref q5, .ref q6])), (q1, .inl (cyI, 246, .inl zs)), (q2, .inl (cyI, 984, .inl zv)), (q3, .inl (cyI, 80, .inl zt)), (q4, .inl (cyI, 5, .inl zp)), (q5, .inl (cyI, 40, .inl zm)), (q6, .inl (cyI, 40, .inl zk))]) hD hS hA [0, 1, 2, 3, 4, 5, 6] rfl) 0 rfl rfl rfl) rfl rfl hl.1 rfl (lv_room (Nat.le_of_ble_eq_true rfl)) dX9_addZone_75 ⟨Nat.le_of_ble_eq_true rfl, Nat.le_of_ble_eq_true rfl⟩) hP hD hS hA [0, 1, 2, 3, 4, 5, 6] [] rfl rfl (by decide) (by decide) (fun u_12 H locs hw hP hD hS => ?_)
            have hu_12 := hw
            have hE := hE.trans (spLet_eq hu_12)
            have hP : va_P (dC, dI) vwCl [(q0, .inr (9, [.ref q1, .ref q2, .int (u_12.1), .ref q3, .int tl, .int (0 : Int32), .int mm, .int mr, .ref q4, .int ati, .int ors, .ref q5, .ref q6])), (q1, .inl (cyI, 246, .inl zs)), (q2, .inl (cyI, 984, .inl (u_12.2))), (q3, .inl (cyI, 80, .inl zt)), (q4, .inl (cyI, 5, .inl zp)), (q5, .inl (cyI, 40, .inl zm)), (q6, .inl (cyI, 40, .inl zk))] H := hP
            have hD : va_D A [(q0, .inr (9, [.ref q1, .ref q2, .int (u_12.1), .ref q3, .int tl, .int (0 : Int32), .int mm, .int mr, .ref q4, .int ati, .int ors, .ref q5, .ref q6])), (q1, .inl (cyI, 246, .inl zs)), (q2, .inl (cyI, 984, .inl (u_12.2))), (q3, .inl (cyI, 80, .inl zt)), (q4, .inl (cyI, 5, .inl zp)), (q5, .inl (cyI, 40, .inl zm)), (q6, .inl (cyI, 40, .inl zk))] := hD
            refine lv_bipush (v := 19) hx hb dX9_addZone_78 (by decide) ?_
            refine lv_iconst (v := 4) hx hb dX9_addZone_80 (by decide) ?_
            refine lv_aload_n hx hb dX9_addZone_81 rfl (lv_at hl 0 rfl) ?_
            refine va_get (D := (dC, dI)) (ci := 9) (v := .ref q1) (C := RX9) (T := TX9) (N := 13) hx hb hts i_X9 hown hK hP 0 rfl rfl 0 (by decide) w_1 (fun _ h9 => h9) rfl dX9_addZone_82 ?_
            refine lv_bipush (v := 18) hx hb dX9_addZone_85 (by decide) ?_
            refine ra_ld hx hb hK hP 1 0 rfl rfl (j := 18) (rfl : (18 : Int32) = nI 18) (by omega) (by omega) dX9_addZone_87 ?_
            refine lv_imul hx hb dX9_addZone_88 ?_
            refine lv_iadd hx hb dX9_addZone_89 ?_
            refine lv_topi (fun y_13 ey_13 => ?_)
            obtain rfl : y_13 = nI (19 + (4 * (zs 18).toNatClampNeg)) := ey_13.trans (nadd (rfl : (19 : Int32) = nI 19) (nmul (rfl : (4 : Int32) = nI 4) hz))
            refine lv_istore (lv' := [(5, .int (nI (19 + (4 * (zs 18).toNatClampNeg)))), (0, .ref q0), (1, .int fr), (2, .int to), (3, .int ra), (4, .int hei)]) hx hb dX9_addZone_90 hl (by decide) rfl (fun ls hl => ?_)
            refine lv_aload_n hx hb dX9_addZone_92 rfl (lv_at hl 1 rfl) ?_
            refine va_get (D := (dC, dI)) (ci := 9) (v := .ref q1) (C := RX9) (T := TX9) (N := 13) hx hb hts i_X9 hown hK hP 0 rfl rfl 0 (by decide) w_1 (fun _ h9 => h9) rfl dX9_addZone_93 ?_
            refine lv_iload hx hb dX9_addZone_96 (lv_at hl 0 rfl) ?_
            refine lv_iload_n hx hb dX9_addZone_98 rfl (lv_at hl 2 rfl) ?_
            refine ra_st hx hb hK hP hD hS 1 0 rfl rfl (j := (19 + (4 * (zs 18).toNatClampNeg))) (rfl : (nI (19 + (4 * (zs 18).toNatClampNeg))) = nI (19 + (4 * (zs 18).toNatClampNeg))) (by omega) (by omega) dX9_addZone_99 (fun H locs hP hD hS => ?_)
            have hP : va_P (dC, dI) vwCl [(q0, .inr (9, [.ref q1, .ref q2, .int (u_12.1), .ref q3, .int tl, .int (0 : Int32), .int mm, .int mr, .ref q4, .int ati, .int ors, .ref q5, .ref q6])), (q1, .inl (cyI, 246, .inl (upd zs (19 + (4 * (zs 18).toNatClampNeg)) fr))), (q2, .inl (cyI, 984, .inl (u_12.2))), (q3, .inl (cyI, 80, .inl zt)), (q4, .inl (cyI, 5, .inl zp)), (q5, .inl (cyI, 40, .inl zm)), (q6, .inl (cyI, 40, .inl zk))] H := hP
            have hD : va_D A [(q0, .inr (9, [.ref q1, .ref q2, .int (u_12.1), .ref q3, .int tl, .int (0 : Int32), .int mm, .int mr, .ref q4, .int ati, .int ors, .ref q5, .ref q6])), (q1, .inl (cyI, 246, .inl (upd zs (19 + (4 * (zs 18).toNatClampNeg)) fr))), (q2, .inl (cyI, 984, .inl (u_12.2))), (q3, .inl (cyI, 80, .inl zt)), (q4, .inl (cyI, 5, .inl zp)), (q5, .inl (cyI, 40, .inl zm)), (q6, .inl (cyI, 40, .inl zk))] := hD
            obtain ⟨f_14, ef_14⟩ : ∃ y : Nat → Int32, y = upd zs (19 + (4 * (zs 18).toNatClampNeg)) fr := ⟨_, rfl⟩
            rw [← ef_14] at hP hD
            have hE := hE.trans (spLet_eq ef_14)
            refine lv_aload_n hx hb dX9_addZone_100 rfl (lv_at hl 1 rfl) ?_
            refine va_get (D := (dC, dI)) (ci := 9) (v := .ref q1) (C := RX9) (T := TX9) (N := 13) hx hb hts i_X9 hown hK hP 0 rfl rfl 0 (by decide) w_1 (fun _ h9 => h9) rfl dX9_addZone_101 ?_
            refine lv_iload hx hb dX9_addZone_104 (lv_at hl 0 rfl) ?_
            refine lv_iconst (v := 1) hx hb dX9_addZone_106 (by decide) ?_
            refine lv_iadd hx hb dX9_addZone_107 ?_
            refine lv_topi (fun y_15 ey_15 => ?_)
            obtain rfl : y_15 = nI ((19 + (4 * (zs 18).toNatClampNeg)) + 1) := ey_15.trans (nadd (rfl : (nI (19 + (4 * (zs 18).toNatClampNeg))) = nI (19 + (4 * (zs 18).toNatClampNeg))) (rfl : (1 : Int32) = nI 1))
            refine lv_iload_n hx hb dX9_addZone_108 rfl (lv_at hl 3 rfl) ?_
            refine ra_st hx hb hK hP hD hS 1 0 rfl rfl (j := ((19 + (4 * (zs 18).toNatClampNeg)) + 1)) (rfl : (nI ((19 + (4 * (zs 18).toNatClampNeg)) + 1)) = nI ((19 + (4 * (zs 18).toNatClampNeg)) + 1)) (by omega) (by omega) dX9_addZone_109 (fun H locs hP hD hS => ?_)
            have hP : va_P (dC, dI) vwCl [(q0, .inr (9, [.ref q1, .ref q2, .int (u_12.1), .ref q3, .int tl, .int (0 : Int32), .int mm, .int mr, .ref q4, .int ati, .int ors, .ref q5, .ref q6])), (q1, .inl (cyI, 246, .inl (upd f_14 ((19 + (4 * (zs 18).toNatClampNeg)) + 1) to))), (q2, .inl (cyI, 984, .inl (u_12.2))), (q3, .inl (cyI, 80, .inl zt)), (q4, .inl (cyI, 5, .inl zp)), (q5, .inl (cyI, 40, .inl zm)), (q6, .inl (cyI, 40, .inl zk))] H := hP
            have hD : va_D A [(q0, .inr (9, [.ref q1, .ref q2, .int (u_12.1), .ref q3, .int tl, .int (0 : Int32), .int mm, .int mr, .ref q4, .int ati, .int ors, .ref q5, .ref q6])), (q1, .inl (cyI, 246, .inl (upd f_14 ((19 + (4 * (zs 18).toNatClampNeg)) + 1) to))), (q2, .inl (cyI, 984, .inl (u_12.2))), (q3, .inl (cyI, 80, .inl zt)), (q4, .inl (cyI, 5, .inl zp)), (q5, .inl (cyI, 40, .inl zm)), (q6, .inl (cyI, 40, .inl zk))] := hD
            obtain ⟨f_16, ef_16⟩ : ∃ y : Nat → Int32, y = upd f_14 ((19 + (4 * (zs 18).toNatClampNeg)) + 1) to := ⟨_, rfl⟩
            rw [← ef_16] at hP hD
            have hE := hE.trans (spLet_eq ef_16)
            refine lv_aload_n hx hb dX9_addZone_110 rfl (lv_at hl 1 rfl) ?_
            refine va_get (D := (dC, dI)) (ci := 9) (v := .ref q1) (C := RX9) (T := TX9) (N := 13) hx hb hts i_X9 hown hK hP 0 rfl rfl 0 (by decide) w_1 (fun _ h9 => h9) rfl dX9_addZone_111 ?_
            refine lv_iload hx hb dX9_addZone_114 (lv_at hl 0 rfl) ?_
            refine lv_iconst (v := 2) hx hb dX9_addZone_116 (by decide) ?_
            refine lv_iadd hx hb dX9_addZone_117 ?_
            refine lv_topi (fun y_17 ey_17 => ?_)
            obtain rfl : y_17 = nI ((19 + (4 * (zs 18).toNatClampNeg)) + 2) := ey_17.trans (nadd (rfl : (nI (19 + (4 * (zs 18).toNatClampNeg))) = nI (19 + (4 * (zs 18).toNatClampNeg))) (rfl : (2 : Int32) = nI 2))
            refine lv_iload_n hx hb dX9_addZone_118 rfl (lv_at hl 4 rfl) ?_
            refine ra_st hx hb hK hP hD hS 1 0 rfl rfl (j := ((19 + (4 * (zs 18).toNatClampNeg)) + 2)) (rfl : (nI ((19 + (4 * (zs 18).toNatClampNeg)) + 2)) = nI ((19 + (4 * (zs 18).toNatClampNeg)) + 2)) (by omega) (by omega) dX9_addZone_119 (fun H locs hP hD hS => ?_)
            have hP : va_P (dC, dI) vwCl [(q0, .inr (9, [.ref q1, .ref q2, .int (u_12.1), .ref q3, .int tl, .int (0 : Int32), .int mm, .int mr, .ref q4, .int ati, .int ors, .ref q5, .ref q6])), (q1, .inl (cyI, 246, .inl (upd f_16 ((19 + (4 * (zs 18).toNatClampNeg)) + 2) ra))), (q2, .inl (cyI, 984, .inl (u_12.2))), (q3, .inl (cyI, 80, .inl zt)), (q4, .inl (cyI, 5, .inl zp)), (q5, .inl (cyI, 40, .inl zm)), (q6, .inl (cyI, 40, .inl zk))] H := hP
            have hD : va_D A [(q0, .inr (9, [.ref q1, .ref q2, .int (u_12.1), .ref q3, .int tl, .int (0 : Int32), .int mm, .int mr, .ref q4, .int ati, .int ors, .ref q5, .ref q6])), (q1, .inl (cyI, 246, .inl (upd f_16 ((19 + (4 * (zs 18).toNatClampNeg)) + 2) ra))), (q2, .inl (cyI, 984, .inl (u_12.2))), (q3, .inl (cyI, 80, .inl zt)), (q4, .inl (cyI, 5, .inl zp)), (q5, .inl (cyI, 40, .inl zm)), (q6, .inl (cyI, 40, .inl zk))] := hD
            obtain ⟨f_18, ef_18⟩ : ∃ y : Nat → Int32, y = upd f_16 ((19 + (4 * (zs 18).toNatClampNeg)) + 2) ra := ⟨_, rfl⟩
            rw [← ef_18] at hP hD
            have hE := hE.trans (spLet_eq ef_18)
            refine lv_aload_n hx hb dX9_addZone_120 rfl (lv_at hl 1 rfl) ?_
            refine va_get (D := (dC, dI)) (ci := 9) (v := .ref q1) (C := RX9) (T := TX9) (N := 13) hx hb hts i_X9 hown hK hP 0 rfl rfl 0 (by decide) w_1 (fun _ h9 => h9) rfl dX9_addZone_121 ?_
            refine lv_iload hx hb dX9_addZone_124 (lv_at hl 0 rfl) ?_
            refine lv_iconst (v := 3) hx hb dX9_addZone_126 (by decide) ?_
            refine lv_iadd hx hb dX9_addZone_127 ?_
            refine lv_topi (fun y_19 ey_19 => ?_)
            obtain rfl : y_19 = nI ((19 + (4 * (zs 18).toNatClampNeg)) + 3) := ey_19.trans (nadd (rfl : (nI (19 + (4 * (zs 18).toNatClampNeg))) = nI (19 + (4 * (zs 18).toNatClampNeg))) (rfl : (3 : Int32) = nI 3))
            refine lv_iload hx hb dX9_addZone_128 (lv_at hl 5 rfl) ?_
            refine ra_st hx hb hK hP hD hS 1 0 rfl rfl (j := ((19 + (4 * (zs 18).toNatClampNeg)) + 3)) (rfl : (nI ((19 + (4 * (zs 18).toNatClampNeg)) + 3)) = nI ((19 + (4 * (zs 18).toNatClampNeg)) + 3)) (by omega) (by omega) dX9_addZone_130 (fun H locs hP hD hS => ?_)
            have hP : va_P (dC, dI) vwCl [(q0, .inr (9, [.ref q1, .ref q2, .int (u_12.1), .ref q3, .int tl, .int (0 : Int32), .int mm, .int mr, .ref q4, .int ati, .int ors, .ref q5, .ref q6])), (q1, .inl (cyI, 246, .inl (upd f_18 ((19 + (4 * (zs 18).toNatClampNeg)) + 3) hei))), (q2, .inl (cyI, 984, .inl (u_12.2))), (q3, .inl (cyI, 80, .inl zt)), (q4, .inl (cyI, 5, .inl zp)), (q5, .inl (cyI, 40, .inl zm)), (q6, .inl (cyI, 40, .inl zk))] H := hP
            have hD : va_D A [(q0, .inr (9, [.ref q1, .ref q2, .int (u_12.1), .ref q3, .int tl, .int (0 : Int32), .int mm, .int mr, .ref q4, .int ati, .int ors, .ref q5, .ref q6])), (q1, .inl (cyI, 246, .inl (upd f_18 ((19 + (4 * (zs 18).toNatClampNeg)) + 3) hei))), (q2, .inl (cyI, 984, .inl (u_12.2))), (q3, .inl (cyI, 80, .inl zt)), (q4, .inl (cyI, 5, .inl zp)), (q5, .inl (cyI, 40, .inl zm)), (q6, .inl (cyI, 40, .inl zk))] := hD
            obtain ⟨f_20, ef_20⟩ : ∃ y : Nat → Int32, y = upd f_18 ((19 + (4 * (zs 18).toNatClampNeg)) + 3) hei := ⟨_, rfl⟩
            rw [← ef_20] at hP hD
            have hE := hE.trans (spLet_eq ef_20)
            refine lv_aload_n hx hb dX9_addZone_131 rfl (lv_at hl 1 rfl) ?_
            refine va_get (D := (dC, dI)) (ci := 9) (v := .ref q1) (C := RX9) (T := TX9) (N := 13) hx hb hts i_X9 hown hK hP 0 rfl rfl 0 (by decide) w_1 (fun _ h9 => h9) rfl dX9_addZone_132 ?_
            refine lv_bipush (v := 18) hx hb dX9_addZone_135 (by decide) ?_
            refine lv_dup2_11 hx hb dX9_addZone_137 rfl rfl ?_
            refine ra_ld hx hb hK hP 1 0 rfl rfl (j := 18) (rfl : (18 : Int32) = nI 18) (by omega) (by omega) dX9_addZone_138 ?_
            refine lv_iconst (v := 1) hx hb dX9_addZone_139 (by decide) ?_
            refine lv_iadd hx hb dX9_addZone_140 ?_
            refine lv_topi (fun x_21 ex_21 => ?_)
            have hE := hE.trans (spLet_eq ex_21)
            refine ra_st hx hb hK hP hD hS 1 0 rfl rfl (j := 18) (rfl : (18 : Int32) = nI 18) (by omega) (by omega) dX9_addZone_141 (fun H locs hP hD hS => ?_)
            have hP : va_P (dC, dI) vwCl [(q0, .inr (9, [.ref q1, .ref q2, .int (u_12.1), .ref q3, .int tl, .int (0 : Int32), .int mm, .int mr, .ref q4, .int ati, .int ors, .ref q5, .ref q6])), (q1, .inl (cyI, 246, .inl (upd f_20 18 x_21))), (q2, .inl (cyI, 984, .inl (u_12.2))), (q3, .inl (cyI, 80, .inl zt)), (q4, .inl (cyI, 5, .inl zp)), (q5, .inl (cyI, 40, .inl zm)), (q6, .inl (cyI, 40, .inl zk))] H := hP
            have hD : va_D A [(q0, .inr (9, [.ref q1, .ref q2, .int (u_12.1), .ref q3, .int tl, .int (0 : Int32), .int mm, .int mr, .ref q4, .int ati, .int ors, .ref q5, .ref q6])), (q1, .inl (cyI, 246, .inl (upd f_20 18 x_21))), (q2, .inl (cyI, 984, .inl (u_12.2))), (q3, .inl (cyI, 80, .inl zt)), (q4, .inl (cyI, 5, .inl zp)), (q5, .inl (cyI, 40, .inl zm)), (q6, .inl (cyI, 40, .inl zk))] := hD
            obtain ⟨f_22, ef_22⟩ : ∃ y : Nat → Int32, y = upd f_20 18 x_21 := ⟨_, rfl⟩
            rw [← ef_22] at hP hD
            have hE := hE.trans (spLet_eq ef_22)
            refine lv_aload_n hx hb dX9_addZone_142 rfl (lv_at hl 1 rfl) ?_
            refine va_get (D := (dC, dI)) (ci := 9) (v := .ref q1) (C := RX9) (T := TX9) (N := 13) hx hb hts i_X9 hown hK hP 0 rfl rfl 0 (by decide) w_1 (fun _ h9 => h9) rfl dX9_addZone_143 ?_
            refine lv_bipush (v := 18) hx hb dX9_addZone_146 (by decide) ?_
            refine ra_ld hx hb hK hP 1 0 rfl rfl (j := 18) (rfl : (18 : Int32) = nI 18) (by omega) (by omega) dX9_addZone_148 ?_
            exact W.iret (v := (f_22 18)) hx hb hr (fun t h9 hW => ⟨⟨(f_22 18), (((f_22 18), (u_12.1), (0 : Int32), f_22, (u_12.2)) : Int32 × Int32 × Int32 × (Nat → Int32) × (Nat → Int32)), rfl, ⟨hE.symm, rfl⟩, by rw [h9]; exact hP, hD⟩, hS.F h9⟩) hS.2.2 dX9_addZone_149
          ·
            have c_11 : (zs 18).toNatClampNeg = 6 := by
              have h1 : ((zs 18)) = nI ((zs 18).toNatClampNeg) := hz
              have h2 : ((6 : Int32)) = nI 6 := rfl
              have h3 : (nI ((zs 18).toNatClampNeg) = nI 6) := by first | exact c_11 | (rw [← h1, ← h2]; exact c_11)
              exact (nI_eq (by omega) (by omega)).mp h3
            have hE := hE.trans (if_pos c_11)
            refine lv_aload_n hx hb dX9_addZone_68 rfl (lv_at hl 0 rfl) ?_
            refine lv_iconst (v := 2) hx hb dX9_addZone_69 (by decide) ?_
            refine mj_i (wr := []) (va_runV (As := [.int (2 : Int32)]) (rest := []) ⟨hx, hb, hml, hown, hts⟩ (c_X9_fails l dC dI cyI H.size q0 q1 q2 q3 q4 q5 q6 svc tl (0 : Int32) mm mr ati ors zs zv zt zp zm zk (2 : Int32)) (cwV 1 hts (gBV b_185 b_186 b_187 b_5 b_188) rfl rfl rfl (by decide +kernel) ⟨Nat.le_of_ble_eq_true rfl, Nat.le_of_ble_eq_true rfl⟩) (prm_v eM_ok he hS hP hD hK (va_free (wc := [(q0, .inr (9, [.ref q1, .ref q2, .int svc, .ref q3, .int tl, .int (0 : Int32), .int mm, .int mr, .ref q4, .int ati, .int ors, .ref q5, .ref q6])), (q1, .inl (cyI, 246, .inl zs)), (q2, .inl (cyI, 984, .inl zv)), (q3, .inl (cyI, 80, .inl zt)), (q4, .inl (cyI, 5, .inl zp)), (q5, .inl (cyI, 40, .inl zm)), (q6, .inl (cyI, 40, .inl zk))]) hD hS hA [0, 1, 2, 3, 4, 5, 6] rfl) 0 rfl rfl rfl) rfl rfl hl.1 rfl (lv_room (Nat.le_of_ble_eq_true rfl)) dX9_addZone_70 ⟨Nat.le_of_ble_eq_true rfl, Nat.le_of_ble_eq_true rfl⟩) hP hD hS hA [0, 1, 2, 3, 4, 5, 6] [] rfl rfl (by decide) (by decide) (fun r_24 u_23 H locs hw hP hD hS => ?_)
            obtain ⟨hu_23, rfl⟩ := hw
            have hE := hE.trans (spLet_eq hu_23)
            have hP : va_P (dC, dI) vwCl [(q0, .inr (9, [.ref q1, .ref q2, .int svc, .ref q3, .int tl, .int (u_23.2), .int mm, .int mr, .ref q4, .int ati, .int ors, .ref q5, .ref q6])), (q1, .inl (cyI, 246, .inl zs)), (q2, .inl (cyI, 984, .inl zv)), (q3, .inl (cyI, 80, .inl zt)), (q4, .inl (cyI, 5, .inl zp)), (q5, .inl (cyI, 40, .inl zm)), (q6, .inl (cyI, 40, .inl zk))] H := hP
            have hD : va_D A [(q0, .inr (9, [.ref q1, .ref q2, .int svc, .ref q3, .int tl, .int (u_23.2), .int mm, .int mr, .ref q4, .int ati, .int ors, .ref q5, .ref q6])), (q1, .inl (cyI, 246, .inl zs)), (q2, .inl (cyI, 984, .inl zv)), (q3, .inl (cyI, 80, .inl zt)), (q4, .inl (cyI, 5, .inl zp)), (q5, .inl (cyI, 40, .inl zm)), (q6, .inl (cyI, 40, .inl zk))] := hD
            exact W.iret (v := (u_23.1)) hx hb hr (fun t h9 hW => ⟨⟨(u_23.1), (((u_23.1), svc, (u_23.2), zs, zv) : Int32 × Int32 × Int32 × (Nat → Int32) × (Nat → Int32)), rfl, ⟨hE.symm, rfl⟩, by rw [h9]; exact hP, hD⟩, hS.F h9⟩) hS.2.2 dX9_addZone_73
        ·
          have hE := hE.trans (if_pos c_10)
          exact J50 ls (lv_sub hl [0] rfl) hE
def m_removeZone_b50 (zs : Nat → Int32) (u_3 : Int32 × (Nat → Int32)) (rec50 : Nat → (Nat → Int32) → (Int32 × Int32 × Int32 × (Nat → Int32) × (Nat → Int32))) : Nat → (Nat → Int32) → (Int32 × Int32 × Int32 × (Nat → Int32) × (Nat → Int32)) :=
  fun k2_50 w1_a_50 => if (19 + (4 * ((zs 18).toNatClampNeg - 1))) ≤ k2_50 then (((w1_a_50 18), (u_3.1), (0 : Int32), w1_a_50, (u_3.2))) else (spLet ((w1_a_50 (k2_50 + 4))) (fun x_8 => spLet (upd w1_a_50 (k2_50) x_8) (fun f_9 => rec50 (k2_50 + 1) f_9)))
def m_removeZone (svc : Int32) (zs : Nat → Int32) (zv : Nat → Int32) (ix : Int32) : Int32 × Int32 × Int32 × (Nat → Int32) × (Nat → Int32) :=
  spLet (m_in ix (0 : Int32) ((zs 18) - (1 : Int32))) (fun r_1 => if r_1 = 0 then (spLet (m_fails (1 : Int32)) (fun u_10 => ((u_10.1), svc, (u_10.2), zs, zv))) else (spLet (m_keep svc zs zv) (fun u_3 => spLet (((zs 18) - (1 : Int32))) (fun x_4 => spLet (upd zs 18 x_4) (fun f_5 => spIter (fun _ _ => default) (m_removeZone_b50 zs u_3) 44 (19 + (4 * ix.toNatClampNeg)) f_5)))))
set_option maxHeartbeats 1000000 in
set_option maxRecDepth 100000 in
theorem c_X9_removeZone (l : Launch) (dC : Nat → ClassId) (dI : Nat → Nat → Nat) (cyI : ClassId) (sz : Nat) (q0 : Nat) (q1 : Nat) (q2 : Nat) (q3 : Nat) (q4 : Nat) (q5 : Nat) (q6 : Nat) (svc : Int32) (tl : Int32) (cde : Int32) (mm : Int32) (mr : Int32) (ati : Int32) (ors : Int32) (zs : Nat → Int32) (zv : Nat → Int32) (zt : Nat → Int32) (zp : Nat → Int32) (zm : Nat → Int32) (zk : Nat → Int32) (ix : Int32) (hsv : svc = nI svc.toNatClampNeg) (hs4 : svc.toNatClampNeg ≤ 4) (hG : mG zs) : Met l yX9_removeZone wqX9_removeZone ({ frames := 1, cells := 0, slots := 0, locals := 22 } : Room) (va_Pc [.ref q0, .int ix] (pC (dC, dI) [(q0, .inr (9, [.ref q1, .ref q2, .int svc, .ref q3, .int tl, .int cde, .int mm, .int mr, .ref q4, .int ati, .int ors, .ref q5, .ref q6])), (q1, .inl (cyI, 246, .inl zs)), (q2, .inl (cyI, 984, .inl zv)), (q3, .inl (cyI, 80, .inl zt)), (q4, .inl (cyI, 5, .inl zp)), (q5, .inl (cyI, 40, .inl zm)), (q6, .inl (cyI, 40, .inl zk))] [(cyI, .int)] eM sz)) (va_Qi (fun (r : Int32) (u : Int32 × Int32 × Int32 × (Nat → Int32) × (Nat → Int32)) => u = (m_removeZone svc zs zv ix) ∧ r = u.1) (fun (u : Int32 × Int32 × Int32 × (Nat → Int32) × (Nat → Int32)) t => va_P (dC, dI) vwCl [(q0, .inr (9, [.ref q1, .ref q2, .int (u.2.1), .ref q3, .int tl, .int (u.2.2.1), .int mm, .int mr, .ref q4, .int ati, .int ors, .ref q5, .ref q6])), (q1, .inl (cyI, 246, .inl (u.2.2.2.1))), (q2, .inl (cyI, 984, .inl (u.2.2.2.2))), (q3, .inl (cyI, 80, .inl zt)), (q4, .inl (cyI, 5, .inl zp)), (q5, .inl (cyI, 40, .inl zm)), (q6, .inl (cyI, 40, .inl zk))] t.heap ∧ va_D (va_A [(q0, .inr (9, [.ref q1, .ref q2, .int svc, .ref q3, .int tl, .int cde, .int mm, .int mr, .ref q4, .int ati, .int ors, .ref q5, .ref q6])), (q1, .inl (cyI, 246, .inl zs)), (q2, .inl (cyI, 984, .inl zv)), (q3, .inl (cyI, 80, .inl zt)), (q4, .inl (cyI, 5, .inl zp)), (q5, .inl (cyI, 40, .inl zm)), (q6, .inl (cyI, 40, .inl zk))] sz) [(q0, .inr (9, [.ref q1, .ref q2, .int (u.2.1), .ref q3, .int tl, .int (u.2.2.1), .int mm, .int mr, .ref q4, .int ati, .int ors, .ref q5, .ref q6])), (q1, .inl (cyI, 246, .inl (u.2.2.2.1))), (q2, .inl (cyI, 984, .inl (u.2.2.2.2))), (q3, .inl (cyI, 80, .inl zt)), (q4, .inl (cyI, 5, .inl zp)), (q5, .inl (cyI, 40, .inl zm)), (q6, .inl (cyI, 40, .inl zk))]) (va_A [(q0, .inr (9, [.ref q1, .ref q2, .int svc, .ref q3, .int tl, .int cde, .int mm, .int mr, .ref q4, .int ati, .int ors, .ref q5, .ref q6])), (q1, .inl (cyI, 246, .inl zs)), (q2, .inl (cyI, 984, .inl zv)), (q3, .inl (cyI, 80, .inl zt)), (q4, .inl (cyI, 5, .inl zp)), (q5, .inl (cyI, 40, .inl zm)), (q6, .inl (cyI, 40, .inl zk))] sz)) 0 0 (va_A [(q0, .inr (9, [.ref q1, .ref q2, .int svc, .ref q3, .int tl, .int cde, .int mm, .int mr, .ref q4, .int ati, .int ors, .ref q5, .ref q6])), (q1, .inl (cyI, 246, .inl zs)), (q2, .inl (cyI, 984, .inl zv)), (q3, .inl (cyI, 80, .inl zt)), (q4, .inl (cyI, 5, .inl zp)), (q5, .inl (cyI, 40, .inl zm)), (q6, .inl (cyI, 40, .inl zk))] sz) := by
  refine Met.ofW (cc := cX9_removeZone) (maxL := 3) (ret := (some .int)) (by decide) rfl ?_
  intro p e s m args below meth c s₁ B hml hv
  obtain ⟨rfl, hsz, hP, hK, hD0, he⟩ := hv
  have hx := B.exec
  have hb := B.bytes
  have hr := B.returns
  have hts := atoms_spec (ws := wqX9_removeZone) B.pre
  have hown : s.vm.findClass RX9 = some m.cls := findClass_of_methodNamed B.named
  have hlocks := B.notSynchronized
  have w_0 := hts (Cond.fieldLink RX9 28 "CraneLimiterModel" "code" "I") (List.mem_cons_of_mem _ b_181)
  have w_1 := hts (Cond.fieldLink RX9 7 "CraneLimiterModel" "s" "[I") (List.mem_cons_of_mem _ b_93)
  have i_X9 : ∀ w ∈ u_ws RX9 TX9 13, w ∈ wqX9_removeZone := fun w h => List.mem_cons_of_mem _ (bX9 w h)
  subst hsz
  have hD := hD0.self (sz := s.heap.size)
  generalize hAe : va_A [(q0, .inr (9, [.ref q1, .ref q2, .int svc, .ref q3, .int tl, .int cde, .int mm, .int mr, .ref q4, .int ati, .int ors, .ref q5, .ref q6])), (q1, .inl (cyI, 246, .inl zs)), (q2, .inl (cyI, 984, .inl zv)), (q3, .inl (cyI, 80, .inl zt)), (q4, .inl (cyI, 5, .inl zp)), (q5, .inl (cyI, 40, .inl zm)), (q6, .inl (cyI, 40, .inl zk))] s.heap.size = A at hD he ⊢
  have hA : ∀ q : Nat, s.heap.size ≤ q → A q := fun q h => by rw [← hAe]; exact Or.inr h
  have hS : va_S A s.heap s.heap [] := va_S.rf
  have hP : va_P (dC, dI) vwCl [(q0, .inr (9, [.ref q1, .ref q2, .int svc, .ref q3, .int tl, .int cde, .int mm, .int mr, .ref q4, .int ati, .int ors, .ref q5, .ref q6])), (q1, .inl (cyI, 246, .inl zs)), (q2, .inl (cyI, 984, .inl zv)), (q3, .inl (cyI, 80, .inl zt)), (q4, .inl (cyI, 5, .inl zp)), (q5, .inl (cyI, 40, .inl zm)), (q6, .inl (cyI, 40, .inl zk))] s.heap := hP
  have hl := lv_entry ([.ref q0, .int ix] : List Value) (n := 3) (Nat.le_of_ble_eq_true rfl)
  rw [lg_entry_eq]
  generalize (lg_sl ([.ref q0, .int ix] : List Value) ++ List.replicate (3 - (lg_sl ([.ref q0, .int ix] : List Value)).length) Slot.unset).toArray = ls at hl ⊢
  have hl : lv_has ls 3 [(0, .ref q0), (1, .int ix)] := hl
  have hE : m_removeZone svc zs zv ix = m_removeZone svc zs zv ix := rfl
  have hz := hG.zones.1
  have hz6 := hG.zones.2
  refine lv_aload_n hx hb dX9_removeZone_0 rfl (lv_at hl 0 rfl) ?_
  refine lv_iconst (v := 0) hx hb dX9_removeZone_1 (by decide) ?_
  refine va_put (D := (dC, dI)) (ci := 9) (v := .int (0 : Int32)) (ty := .int) (C := RX9) (T := TX9) (N := 13) hx hb hts i_X9 tyX9 tyX9_ok nmX9 hown hK hP hD hS 0 rfl rfl 5 (by decide) w_0 (fun _ h9 => h9) rfl (by decide +kernel) (rfl) (rfl) (Nat.le_of_ble_eq_true rfl) dX9_removeZone_2 (fun H locs hP hD hS => ?_)
  have hP : va_P (dC, dI) vwCl [(q0, .inr (9, [.ref q1, .ref q2, .int svc, .ref q3, .int tl, .int (0 : Int32), .int mm, .int mr, .ref q4, .int ati, .int ors, .ref q5, .ref q6])), (q1, .inl (cyI, 246, .inl zs)), (q2, .inl (cyI, 984, .inl zv)), (q3, .inl (cyI, 80, .inl zt)), (q4, .inl (cyI, 5, .inl zp)), (q5, .inl (cyI, 40, .inl zm)), (q6, .inl (cyI, 40, .inl zk))] H := hP
  have hD : va_D A [(q0, .inr (9, [.ref q1, .ref q2, .int svc, .ref q3, .int tl, .int (0 : Int32), .int mm, .int mr, .ref q4, .int ati, .int ors, .ref q5, .ref q6])), (q1, .inl (cyI, 246, .inl zs)), (q2, .inl (cyI, 984, .inl zv)), (q3, .inl (cyI, 80, .inl zt)), (q4, .inl (cyI, 5, .inl zp)), (q5, .inl (cyI, 40, .inl zm)), (q6, .inl (cyI, 40, .inl zk))] := hD
  refine lv_iload_n hx hb dX9_removeZone_5 rfl (lv_at hl 1 rfl) ?_
  refine lv_iconst (v := 0) hx hb dX9_removeZone_6 (by decide) ?_
  refine lv_aload_n hx hb dX9_removeZone_7 rfl (lv_at hl 0 rfl) ?_
  refine va_get (D := (dC, dI)) (ci := 9) (v := .ref q1) (C := RX9) (T := TX9) (N := 13) hx hb hts i_X9 hown hK hP 0 rfl rfl 0 (by decide) w_1 (fun _ h9 => h9) rfl dX9_removeZone_8 ?_
  refine lv_bipush (v := 18) hx hb dX9_removeZone_11 (by decide) ?_
  refine ra_ld hx hb hK hP 1 0 rfl rfl (j := 18) (rfl : (18 : Int32) = nI 18) (by omega) (by omega) dX9_removeZone_13 ?_
  refine lv_iconst (v := 1) hx hb dX9_removeZone_14 (by decide) ?_
  refine lv_isub hx hb dX9_removeZone_15 ?_
  refine vp_callSi (W.runS (As := [.int ix, .int (0 : Int32), .int ((zs 18) - (1 : Int32))]) (rest := []) ⟨hx, hb, hml, hown, hts⟩ (c_X9_in l dC dI cyI ix (0 : Int32) ((zs 18) - (1 : Int32))) (va_cwS 3 hts (gBS b_182 b_183 b_5 b_184) rfl rfl rfl (by decide +kernel) ⟨Nat.le_of_ble_eq_true rfl, Nat.le_of_ble_eq_true rfl⟩) (pre_s eM_ok he hS (hP.sub (ws' := []) [] rfl) (hK.sub (tys' := []) [] rfl)) rfl rfl hl.1 rfl (lv_room (Nat.le_of_ble_eq_true rfl)) dX9_removeZone_16 ⟨Nat.zero_le _, Nat.zero_le _⟩) (fun r_1 hr_1 => ?_)
  obtain ⟨hr_1, hbr_1⟩ := hr_1
  have hE := hE.trans (spLet_eq hr_1)
  refine lv_if_ne (tgt := 28) hx hb dX9_removeZone_19 (by decide) (fun c_2 => ?_) (fun c_2 => ?_)
  ·
    have hE := hE.trans (if_neg c_2)
    have hix := rz_n hz hr_1 (by assumption)
    have hix2 := hix.2
    refine lv_aload_n hx hb dX9_removeZone_28 rfl (lv_at hl 0 rfl) ?_
    refine mj_v (wr := []) (va_runV (As := []) (rest := []) ⟨hx, hb, hml, hown, hts⟩ (c_X9_keep l dC dI cyI H.size q0 q1 q2 q3 q4 q5 q6 svc tl (0 : Int32) mm mr ati ors zs zv zt zp zm zk hsv hs4) (cwV 0 hts (gBV b_193 b_194 b_195 b_5 b_196) rfl rfl rfl (by decide +kernel) ⟨Nat.le_of_ble_eq_true rfl, Nat.le_of_ble_eq_true rfl⟩) (prm_v eM_ok he hS hP hD hK (va_free (wc := [(q0, .inr (9, [.ref q1, .ref q2, .int svc, .ref q3, .int tl, .int (0 : Int32), .int mm, .int mr, .ref q4, .int ati, .int ors, .ref q5, .ref q6])), (q1, .inl (cyI, 246, .inl zs)), (q2, .inl (cyI, 984, .inl zv)), (q3, .inl (cyI, 80, .inl zt)), (q4, .inl (cyI, 5, .inl zp)), (q5, .inl (cyI, 40, .inl zm)), (q6, .inl (cyI, 40, .inl zk))]) hD hS hA [0, 1, 2, 3, 4, 5, 6] rfl) 0 rfl rfl rfl) rfl rfl hl.1 rfl (lv_room (Nat.le_of_ble_eq_true rfl)) dX9_removeZone_29 ⟨Nat.le_of_ble_eq_true rfl, Nat.le_of_ble_eq_true rfl⟩) hP hD hS hA [0, 1, 2, 3, 4, 5, 6] [] rfl rfl (by decide) (by decide) (fun u_3 H locs hw hP hD hS => ?_)
    have hu_3 := hw
    have hE := hE.trans (spLet_eq hu_3)
    have hP : va_P (dC, dI) vwCl [(q0, .inr (9, [.ref q1, .ref q2, .int (u_3.1), .ref q3, .int tl, .int (0 : Int32), .int mm, .int mr, .ref q4, .int ati, .int ors, .ref q5, .ref q6])), (q1, .inl (cyI, 246, .inl zs)), (q2, .inl (cyI, 984, .inl (u_3.2))), (q3, .inl (cyI, 80, .inl zt)), (q4, .inl (cyI, 5, .inl zp)), (q5, .inl (cyI, 40, .inl zm)), (q6, .inl (cyI, 40, .inl zk))] H := hP
    have hD : va_D A [(q0, .inr (9, [.ref q1, .ref q2, .int (u_3.1), .ref q3, .int tl, .int (0 : Int32), .int mm, .int mr, .ref q4, .int ati, .int ors, .ref q5, .ref q6])), (q1, .inl (cyI, 246, .inl zs)), (q2, .inl (cyI, 984, .inl (u_3.2))), (q3, .inl (cyI, 80, .inl zt)), (q4, .inl (cyI, 5, .inl zp)), (q5, .inl (cyI, 40, .inl zm)), (q6, .inl (cyI, 40, .inl zk))] := hD
    refine lv_aload_n hx hb dX9_removeZone_32 rfl (lv_at hl 0 rfl) ?_
    refine va_get (D := (dC, dI)) (ci := 9) (v := .ref q1) (C := RX9) (T := TX9) (N := 13) hx hb hts i_X9 hown hK hP 0 rfl rfl 0 (by decide) w_1 (fun _ h9 => h9) rfl dX9_removeZone_33 ?_
    refine lv_bipush (v := 18) hx hb dX9_removeZone_36 (by decide) ?_
    refine lv_dup2_11 hx hb dX9_removeZone_38 rfl rfl ?_
    refine ra_ld hx hb hK hP 1 0 rfl rfl (j := 18) (rfl : (18 : Int32) = nI 18) (by omega) (by omega) dX9_removeZone_39 ?_
    refine lv_iconst (v := 1) hx hb dX9_removeZone_40 (by decide) ?_
    refine lv_isub hx hb dX9_removeZone_41 ?_
    refine lv_topi (fun x_4 ex_4 => ?_)
    have hE := hE.trans (spLet_eq ex_4)
    refine ra_st hx hb hK hP hD hS 1 0 rfl rfl (j := 18) (rfl : (18 : Int32) = nI 18) (by omega) (by omega) dX9_removeZone_42 (fun H locs hP hD hS => ?_)
    have hP : va_P (dC, dI) vwCl [(q0, .inr (9, [.ref q1, .ref q2, .int (u_3.1), .ref q3, .int tl, .int (0 : Int32), .int mm, .int mr, .ref q4, .int ati, .int ors, .ref q5, .ref q6])), (q1, .inl (cyI, 246, .inl (upd zs 18 x_4))), (q2, .inl (cyI, 984, .inl (u_3.2))), (q3, .inl (cyI, 80, .inl zt)), (q4, .inl (cyI, 5, .inl zp)), (q5, .inl (cyI, 40, .inl zm)), (q6, .inl (cyI, 40, .inl zk))] H := hP
    have hD : va_D A [(q0, .inr (9, [.ref q1, .ref q2, .int (u_3.1), .ref q3, .int tl, .int (0 : Int32), .int mm, .int mr, .ref q4, .int ati, .int ors, .ref q5, .ref q6])), (q1, .inl (cyI, 246, .inl (upd zs 18 x_4))), (q2, .inl (cyI, 984, .inl (u_3.2))), (q3, .inl (cyI, 80, .inl zt)), (q4, .inl (cyI, 5, .inl zp)), (q5, .inl (cyI, 40, .inl zm)), (q6, .inl (cyI, 40, .inl zk))] := hD
    obtain ⟨f_5, ef_5⟩ : ∃ y : Nat → Int32, y = upd zs 18 x_4 := ⟨_, rfl⟩
    rw [← ef_5] at hP hD
    have hE := hE.trans (spLet_eq ef_5)
    refine lv_bipush (v := 19) hx hb dX9_removeZone_43 (by decide) ?_
    refine lv_iconst (v := 4) hx hb dX9_removeZone_45 (by decide) ?_
    refine lv_iload_n hx hb dX9_removeZone_46 rfl (lv_at hl 1 rfl) ?_
    refine lv_imul hx hb dX9_removeZone_47 ?_
    refine lv_iadd hx hb dX9_removeZone_48 ?_
    refine lv_topi (fun y_6 ey_6 => ?_)
    obtain rfl : y_6 = nI (19 + (4 * ix.toNatClampNeg)) := ey_6.trans (nadd (rfl : (19 : Int32) = nI 19) (nmul (rfl : (4 : Int32) = nI 4) hix.1))
    refine lv_istore_n (lv' := [(2, .int (nI (19 + (4 * ix.toNatClampNeg)))), (0, .ref q0), (1, .int ix)]) hx hb dX9_removeZone_49 rfl hl (by decide) rfl (fun ls hl => ?_)
    have L50 : ∀ (n50 : Nat) (k2_50 : Nat) (w1_a_50 : Nat → Int32) (hi : w1_a_50 18 = nI ((zs 18).toNatClampNeg - 1) ∧ 19 ≤ k2_50 ∧ k2_50 ≤ 43 ∧ 43 < k2_50 + n50) (H : Heap) (locs : List Loc) (hP : va_P (dC, dI) vwCl [(q0, .inr (9, [.ref q1, .ref q2, .int (u_3.1), .ref q3, .int tl, .int (0 : Int32), .int mm, .int mr, .ref q4, .int ati, .int ors, .ref q5, .ref q6])), (q1, .inl (cyI, 246, .inl w1_a_50)), (q2, .inl (cyI, 984, .inl (u_3.2))), (q3, .inl (cyI, 80, .inl zt)), (q4, .inl (cyI, 5, .inl zp)), (q5, .inl (cyI, 40, .inl zm)), (q6, .inl (cyI, 40, .inl zk))] H) (hD : va_D A [(q0, .inr (9, [.ref q1, .ref q2, .int (u_3.1), .ref q3, .int tl, .int (0 : Int32), .int mm, .int mr, .ref q4, .int ati, .int ors, .ref q5, .ref q6])), (q1, .inl (cyI, 246, .inl w1_a_50)), (q2, .inl (cyI, 984, .inl (u_3.2))), (q3, .inl (cyI, 80, .inl zt)), (q4, .inl (cyI, 5, .inl zp)), (q5, .inl (cyI, 40, .inl zm)), (q6, .inl (cyI, 40, .inl zk))]) (hS : va_S A s.heap H locs) (ls : Array Slot) (hl : lv_has ls 3 [(0, .ref q0), (2, .int (nI k2_50))]) (hE : (m_removeZone svc zs zv ix) = spIter (fun _ _ => default) (m_removeZone_b50 zs u_3) n50 k2_50 w1_a_50), W p l e (headSpec wqX9_removeZone ({ frames := 1, cells := 0, slots := 0, locals := 22 } : Room)).room s m ([.ref q0, .int ix] : List Value).toArray below meth c H locs 0 0 (MQ below (va_Qi (fun (r : Int32) (u : Int32 × Int32 × Int32 × (Nat → Int32) × (Nat → Int32)) => u = (m_removeZone svc zs zv ix) ∧ r = u.1) (fun (u : Int32 × Int32 × Int32 × (Nat → Int32) × (Nat → Int32)) t => va_P (dC, dI) vwCl [(q0, .inr (9, [.ref q1, .ref q2, .int (u.2.1), .ref q3, .int tl, .int (u.2.2.1), .int mm, .int mr, .ref q4, .int ati, .int ors, .ref q5, .ref q6])), (q1, .inl (cyI, 246, .inl (u.2.2.2.1))), (q2, .inl (cyI, 984, .inl (u.2.2.2.2))), (q3, .inl (cyI, 80, .inl zt)), (q4, .inl (cyI, 5, .inl zp)), (q5, .inl (cyI, 40, .inl zm)), (q6, .inl (cyI, 40, .inl zk))] t.heap ∧ va_D A [(q0, .inr (9, [.ref q1, .ref q2, .int (u.2.1), .ref q3, .int tl, .int (u.2.2.1), .int mm, .int mr, .ref q4, .int ati, .int ors, .ref q5, .ref q6])), (q1, .inl (cyI, 246, .inl (u.2.2.2.1))), (q2, .inl (cyI, 984, .inl (u.2.2.2.2))), (q3, .inl (cyI, 80, .inl zt)), (q4, .inl (cyI, 5, .inl zp)), (q5, .inl (cyI, 40, .inl zm)), (q6, .inl (cyI, 40, .inl zk))]) A) ([.ref q0, .int ix] : List Value).toArray s 0 0 A) (F0 m 50 ls []) := by
      intro n50
      induction n50 with
      | zero =>
        intro k2_50 w1_a_50 hi H locs hP hD hS ls hl hE
        exact absurd hi (by omega)
      | succ n50 ih50 =>
        intro k2_50 w1_a_50 hi H locs hP hD hS ls hl hE
        have hE : (m_removeZone svc zs zv ix) = m_removeZone_b50 zs u_3 (spIter (fun _ _ => default) (m_removeZone_b50 zs u_3) n50) k2_50 w1_a_50 := hE
        refine lv_iload_n hx hb dX9_removeZone_50 rfl (lv_at hl 1 rfl) ?_
        refine lv_bipush (v := 19) hx hb dX9_removeZone_51 (by decide) ?_
        refine lv_iconst (v := 4) hx hb dX9_removeZone_53 (by decide) ?_
        refine lv_aload_n hx hb dX9_removeZone_54 rfl (lv_at hl 0 rfl) ?_
        refine va_get (D := (dC, dI)) (ci := 9) (v := .ref q1) (C := RX9) (T := TX9) (N := 13) hx hb hts i_X9 hown hK hP 0 rfl rfl 0 (by decide) w_1 (fun _ h9 => h9) rfl dX9_removeZone_55 ?_
        refine lv_bipush (v := 18) hx hb dX9_removeZone_58 (by decide) ?_
        refine ra_ld hx hb hK hP 1 0 rfl rfl (j := 18) (rfl : (18 : Int32) = nI 18) (by omega) (by omega) dX9_removeZone_60 ?_
        refine lv_imul hx hb dX9_removeZone_61 ?_
        refine lv_iadd hx hb dX9_removeZone_62 ?_
        refine lv_icmp_ge (tgt := 86) hx hb dX9_removeZone_63 (by decide) (fun c_7 => ?_) (fun c_7 => ?_)
        ·
          have c_7 : (19 + (4 * ((zs 18).toNatClampNeg - 1))) ≤ k2_50 := by
            have h1 : ((nI k2_50)) = nI k2_50 := rfl
            have h2 : (((19 : Int32) + ((4 : Int32) * (w1_a_50 18)))) = nI (19 + (4 * ((zs 18).toNatClampNeg - 1))) := (nadd (rfl : (19 : Int32) = nI 19) (nmul (rfl : (4 : Int32) = nI 4) hi.1))
            have h3 : (nI (19 + (4 * ((zs 18).toNatClampNeg - 1))) ≤ nI k2_50) := by first | exact c_7 | (rw [← h1, ← h2]; exact c_7)
            exact (nI_leI (by omega) (by omega)).mp h3
          have hE := hE.trans (if_pos c_7)
          refine lv_aload_n hx hb dX9_removeZone_86 rfl (lv_at hl 0 rfl) ?_
          refine va_get (D := (dC, dI)) (ci := 9) (v := .ref q1) (C := RX9) (T := TX9) (N := 13) hx hb hts i_X9 hown hK hP 0 rfl rfl 0 (by decide) w_1 (fun _ h9 => h9) rfl dX9_removeZone_87 ?_
          refine lv_bipush (v := 18) hx hb dX9_removeZone_90 (by decide) ?_
          refine ra_ld hx hb hK hP 1 0 rfl rfl (j := 18) (rfl : (18 : Int32) = nI 18) (by omega) (by omega) dX9_removeZone_92 ?_
          exact W.iret (v := (w1_a_50 18)) hx hb hr (fun t h9 hW => ⟨⟨(w1_a_50 18), (((w1_a_50 18), (u_3.1), (0 : Int32), w1_a_50, (u_3.2)) : Int32 × Int32 × Int32 × (Nat → Int32) × (Nat → Int32)), rfl, ⟨hE.symm, rfl⟩, by rw [h9]; exact hP, hD⟩, hS.F h9⟩) hS.2.2 dX9_removeZone_93
        ·
          have c_7 : ¬ (19 + (4 * ((zs 18).toNatClampNeg - 1))) ≤ k2_50 := by
            have h1 : ((nI k2_50)) = nI k2_50 := rfl
            have h2 : (((19 : Int32) + ((4 : Int32) * (w1_a_50 18)))) = nI (19 + (4 * ((zs 18).toNatClampNeg - 1))) := (nadd (rfl : (19 : Int32) = nI 19) (nmul (rfl : (4 : Int32) = nI 4) hi.1))
            have h3 : ¬ (nI (19 + (4 * ((zs 18).toNatClampNeg - 1))) ≤ nI k2_50) := by first | exact c_7 | (rw [← h1, ← h2]; exact c_7)
            exact fun h => h3 ((nI_leI (by omega) (by omega)).mpr h)
          have hE := hE.trans (if_neg c_7)
          refine lv_aload_n hx hb dX9_removeZone_66 rfl (lv_at hl 0 rfl) ?_
          refine va_get (D := (dC, dI)) (ci := 9) (v := .ref q1) (C := RX9) (T := TX9) (N := 13) hx hb hts i_X9 hown hK hP 0 rfl rfl 0 (by decide) w_1 (fun _ h9 => h9) rfl dX9_removeZone_67 ?_
          refine lv_iload_n hx hb dX9_removeZone_70 rfl (lv_at hl 1 rfl) ?_
          refine lv_aload_n hx hb dX9_removeZone_71 rfl (lv_at hl 0 rfl) ?_
          refine va_get (D := (dC, dI)) (ci := 9) (v := .ref q1) (C := RX9) (T := TX9) (N := 13) hx hb hts i_X9 hown hK hP 0 rfl rfl 0 (by decide) w_1 (fun _ h9 => h9) rfl dX9_removeZone_72 ?_
          refine lv_iload_n hx hb dX9_removeZone_75 rfl (lv_at hl 1 rfl) ?_
          refine lv_iconst (v := 4) hx hb dX9_removeZone_76 (by decide) ?_
          refine lv_iadd hx hb dX9_removeZone_77 ?_
          refine ra_ld hx hb hK hP 1 0 rfl rfl (j := (k2_50 + 4)) (nadd (rfl : (nI k2_50) = nI k2_50) (rfl : (4 : Int32) = nI 4)) (by omega) (by omega) dX9_removeZone_78 ?_
          refine lv_topi (fun x_8 ex_8 => ?_)
          have hE := hE.trans (spLet_eq ex_8)
          refine ra_st hx hb hK hP hD hS 1 0 rfl rfl (j := k2_50) (rfl : (nI k2_50) = nI k2_50) (by omega) (by omega) dX9_removeZone_79 (fun H locs hP hD hS => ?_)
          have hP : va_P (dC, dI) vwCl [(q0, .inr (9, [.ref q1, .ref q2, .int (u_3.1), .ref q3, .int tl, .int (0 : Int32), .int mm, .int mr, .ref q4, .int ati, .int ors, .ref q5, .ref q6])), (q1, .inl (cyI, 246, .inl (upd w1_a_50 (k2_50) x_8))), (q2, .inl (cyI, 984, .inl (u_3.2))), (q3, .inl (cyI, 80, .inl zt)), (q4, .inl (cyI, 5, .inl zp)), (q5, .inl (cyI, 40, .inl zm)), (q6, .inl (cyI, 40, .inl zk))] H := hP
          have hD : va_D A [(q0, .inr (9, [.ref q1, .ref q2, .int (u_3.1), .ref q3, .int tl, .int (0 : Int32), .int mm, .int mr, .ref q4, .int ati, .int ors, .ref q5, .ref q6])), (q1, .inl (cyI, 246, .inl (upd w1_a_50 (k2_50) x_8))), (q2, .inl (cyI, 984, .inl (u_3.2))), (q3, .inl (cyI, 80, .inl zt)), (q4, .inl (cyI, 5, .inl zp)), (q5, .inl (cyI, 40, .inl zm)), (q6, .inl (cyI, 40, .inl zk))] := hD
          obtain ⟨f_9, ef_9⟩ : ∃ y : Nat → Int32, y = upd w1_a_50 (k2_50) x_8 := ⟨_, rfl⟩
          rw [← ef_9] at hP hD
          have hE := hE.trans (spLet_eq ef_9)
          refine lv_iinc (v := (nI (k2_50 + 1))) (lv' := [(2, .int (nI (k2_50 + 1))), (0, .ref q0)]) hx hb dX9_removeZone_80 hl (k := 1) rfl (show _ from (congrArg (fun z => z + Int32.ofInt 1) (rfl)).trans (ninc _ 1)) (by decide) rfl (fun ls hl => ?_)
          refine lv_goto (tgt := 50) hx hb dX9_removeZone_83 (by decide) ?_
          exact ih50 (k2_50 + 1) f_9 ⟨(by rw [ef_9, pk_un (by omega)]; exact hi.1), by omega, by omega, by omega⟩ _ _ hP hD hS ls (lv_sub hl [1, 0] rfl) hE
    exact L50 44 (19 + (4 * ix.toNatClampNeg)) f_5 ⟨rz_i ef_5 ex_4 hz hix2, by omega, by omega, by omega⟩ _ _ hP hD hS ls (lv_sub hl [1, 0] rfl) hE
  ·
    have hE := hE.trans (if_pos c_2)
    refine lv_aload_n hx hb dX9_removeZone_22 rfl (lv_at hl 0 rfl) ?_
    refine lv_iconst (v := 1) hx hb dX9_removeZone_23 (by decide) ?_
    refine mj_i (wr := []) (va_runV (As := [.int (1 : Int32)]) (rest := []) ⟨hx, hb, hml, hown, hts⟩ (c_X9_fails l dC dI cyI H.size q0 q1 q2 q3 q4 q5 q6 svc tl (0 : Int32) mm mr ati ors zs zv zt zp zm zk (1 : Int32)) (cwV 1 hts (gBV b_185 b_186 b_187 b_5 b_188) rfl rfl rfl (by decide +kernel) ⟨Nat.le_of_ble_eq_true rfl, Nat.le_of_ble_eq_true rfl⟩) (prm_v eM_ok he hS hP hD hK (va_free (wc := [(q0, .inr (9, [.ref q1, .ref q2, .int svc, .ref q3, .int tl, .int (0 : Int32), .int mm, .int mr, .ref q4, .int ati, .int ors, .ref q5, .ref q6])), (q1, .inl (cyI, 246, .inl zs)), (q2, .inl (cyI, 984, .inl zv)), (q3, .inl (cyI, 80, .inl zt)), (q4, .inl (cyI, 5, .inl zp)), (q5, .inl (cyI, 40, .inl zm)), (q6, .inl (cyI, 40, .inl zk))]) hD hS hA [0, 1, 2, 3, 4, 5, 6] rfl) 0 rfl rfl rfl) rfl rfl hl.1 rfl (lv_room (Nat.le_of_ble_eq_true rfl)) dX9_removeZone_24 ⟨Nat.le_of_ble_eq_true rfl, Nat.le_of_ble_eq_true rfl⟩) hP hD hS hA [0, 1, 2, 3, 4, 5, 6] [] rfl rfl (by decide) (by decide) (fun r_11 u_10 H locs hw hP hD hS => ?_)
    obtain ⟨hu_10, rfl⟩ := hw
    have hE := hE.trans (spLet_eq hu_10)
    have hP : va_P (dC, dI) vwCl [(q0, .inr (9, [.ref q1, .ref q2, .int svc, .ref q3, .int tl, .int (u_10.2), .int mm, .int mr, .ref q4, .int ati, .int ors, .ref q5, .ref q6])), (q1, .inl (cyI, 246, .inl zs)), (q2, .inl (cyI, 984, .inl zv)), (q3, .inl (cyI, 80, .inl zt)), (q4, .inl (cyI, 5, .inl zp)), (q5, .inl (cyI, 40, .inl zm)), (q6, .inl (cyI, 40, .inl zk))] H := hP
    have hD : va_D A [(q0, .inr (9, [.ref q1, .ref q2, .int svc, .ref q3, .int tl, .int (u_10.2), .int mm, .int mr, .ref q4, .int ati, .int ors, .ref q5, .ref q6])), (q1, .inl (cyI, 246, .inl zs)), (q2, .inl (cyI, 984, .inl zv)), (q3, .inl (cyI, 80, .inl zt)), (q4, .inl (cyI, 5, .inl zp)), (q5, .inl (cyI, 40, .inl zm)), (q6, .inl (cyI, 40, .inl zk))] := hD
    exact W.iret (v := (u_10.1)) hx hb hr (fun t h9 hW => ⟨⟨(u_10.1), (((u_10.1), svc, (u_10.2), zs, zv) : Int32 × Int32 × Int32 × (Nat → Int32) × (Nat → Int32)), rfl, ⟨hE.symm, rfl⟩, by rw [h9]; exact hP, hD⟩, hS.F h9⟩) hS.2.2 dX9_removeZone_27
def m_isPosition (le : Int32) (an : Int32) (sl : Int32) : Int32 :=
  spLet (m_in le (1000 : Int32) (6000 : Int32)) (fun r_1 => if r_1 = 0 then (0 : Int32) else (spLet (m_in an (0 : Int32) (850 : Int32)) (fun r_3 => if r_3 = 0 then (0 : Int32) else (spLet (m_in sl (0 : Int32) (3599 : Int32)) (fun r_5 => if r_5 = 0 then (0 : Int32) else (1 : Int32))))))
set_option maxHeartbeats 1000000 in
set_option maxRecDepth 100000 in
theorem c_X9_isPosition (l : Launch) (dC : Nat → ClassId) (dI : Nat → Nat → Nat) (cyI : ClassId) (le : Int32) (an : Int32) (sl : Int32) : Met l yX9_isPosition wqX9_isPosition ({ frames := 1, cells := 0, slots := 0, locals := 22 } : Room) (va_Pc [.int le, .int an, .int sl] (pB (dC, dI) [] [] eM)) (vp_Si (fun r => r = (m_isPosition le an sl) ∧ (r = 0 ∨ r = 1))) 0 0 aF := by
  refine Met.ofW (cc := cX9_isPosition) (maxL := 3) (ret := (some .boolean)) (by decide) rfl ?_
  intro p e s m args below meth c s₁ B hml hv
  obtain ⟨rfl, hP, hK, he⟩ := hv
  have hx := B.exec
  have hb := B.bytes
  have hr := B.returns
  have hts := atoms_spec (ws := wqX9_isPosition) B.pre
  have hown : s.vm.findClass RX9 = some m.cls := findClass_of_methodNamed B.named
  have hlocks := B.notSynchronized
  have hS : va_S aF s.heap s.heap [] := va_S.rf
  have hP : va_P (dC, dI) vwCl [] s.heap := hP
  have hl := lv_entry ([.int le, .int an, .int sl] : List Value) (n := 3) (Nat.le_of_ble_eq_true rfl)
  rw [lg_entry_eq]
  generalize (lg_sl ([.int le, .int an, .int sl] : List Value) ++ List.replicate (3 - (lg_sl ([.int le, .int an, .int sl] : List Value)).length) Slot.unset).toArray = ls at hl ⊢
  have hl : lv_has ls 3 [(0, .int le), (1, .int an), (2, .int sl)] := hl
  have hE : m_isPosition le an sl = m_isPosition le an sl := rfl
  refine lv_iload_n hx hb dX9_isPosition_0 rfl (lv_at hl 0 rfl) ?_
  refine lv_sipush (v := 1000) hx hb dX9_isPosition_1 (by decide) ?_
  refine lv_sipush (v := 6000) hx hb dX9_isPosition_4 (by decide) ?_
  refine vp_callSi (W.runS (As := [.int le, .int (1000 : Int32), .int (6000 : Int32)]) (rest := []) ⟨hx, hb, hml, hown, hts⟩ (c_X9_in l dC dI cyI le (1000 : Int32) (6000 : Int32)) (va_cwS 3 hts (gBS b_182 b_183 b_5 b_184) rfl rfl rfl (by decide +kernel) ⟨Nat.le_of_ble_eq_true rfl, Nat.le_of_ble_eq_true rfl⟩) (pre_s eM_ok he hS hP hK) rfl rfl hl.1 rfl (lv_room (Nat.le_of_ble_eq_true rfl)) dX9_isPosition_7 ⟨Nat.zero_le _, Nat.zero_le _⟩) (fun r_1 hr_1 => ?_)
  obtain ⟨hr_1, hbr_1⟩ := hr_1
  have hE := hE.trans (spLet_eq hr_1)
  refine lv_if_eq (tgt := 39) hx hb dX9_isPosition_10 (by decide) (fun c_2 => ?_) (fun c_2 => ?_)
  ·
    have hE := hE.trans (if_pos c_2)
    refine lv_iconst (v := 0) hx hb dX9_isPosition_39 (by decide) ?_
    exact W.zret (v := (0 : Int32)) hx hb hr rfl (fun t ht hW => ⟨_, rfl, ⟨hE.symm, (by decide)⟩, ht⟩) (fun q h => by cases h) dX9_isPosition_40
  ·
    have hE := hE.trans (if_neg c_2)
    refine lv_iload_n hx hb dX9_isPosition_13 rfl (lv_at hl 1 rfl) ?_
    refine lv_iconst (v := 0) hx hb dX9_isPosition_14 (by decide) ?_
    refine lv_sipush (v := 850) hx hb dX9_isPosition_15 (by decide) ?_
    refine vp_callSi (W.runS (As := [.int an, .int (0 : Int32), .int (850 : Int32)]) (rest := []) ⟨hx, hb, hml, hown, hts⟩ (c_X9_in l dC dI cyI an (0 : Int32) (850 : Int32)) (va_cwS 3 hts (gBS b_182 b_183 b_5 b_184) rfl rfl rfl (by decide +kernel) ⟨Nat.le_of_ble_eq_true rfl, Nat.le_of_ble_eq_true rfl⟩) (pre_s eM_ok he hS hP hK) rfl rfl hl.1 rfl (lv_room (Nat.le_of_ble_eq_true rfl)) dX9_isPosition_18 ⟨Nat.zero_le _, Nat.zero_le _⟩) (fun r_3 hr_3 => ?_)
    obtain ⟨hr_3, hbr_3⟩ := hr_3
    have hE := hE.trans (spLet_eq hr_3)
    refine lv_if_eq (tgt := 39) hx hb dX9_isPosition_21 (by decide) (fun c_4 => ?_) (fun c_4 => ?_)
    ·
      have hE := hE.trans (if_pos c_4)
      refine lv_iconst (v := 0) hx hb dX9_isPosition_39 (by decide) ?_
      exact W.zret (v := (0 : Int32)) hx hb hr rfl (fun t ht hW => ⟨_, rfl, ⟨hE.symm, (by decide)⟩, ht⟩) (fun q h => by cases h) dX9_isPosition_40
    ·
      have hE := hE.trans (if_neg c_4)
      refine lv_iload_n hx hb dX9_isPosition_24 rfl (lv_at hl 2 rfl) ?_
      refine lv_iconst (v := 0) hx hb dX9_isPosition_25 (by decide) ?_
      refine lv_sipush (v := 3599) hx hb dX9_isPosition_26 (by decide) ?_
      refine vp_callSi (W.runS (As := [.int sl, .int (0 : Int32), .int (3599 : Int32)]) (rest := []) ⟨hx, hb, hml, hown, hts⟩ (c_X9_in l dC dI cyI sl (0 : Int32) (3599 : Int32)) (va_cwS 3 hts (gBS b_182 b_183 b_5 b_184) rfl rfl rfl (by decide +kernel) ⟨Nat.le_of_ble_eq_true rfl, Nat.le_of_ble_eq_true rfl⟩) (pre_s eM_ok he hS hP hK) rfl rfl hl.1 rfl (lv_room (Nat.le_of_ble_eq_true rfl)) dX9_isPosition_29 ⟨Nat.zero_le _, Nat.zero_le _⟩) (fun r_5 hr_5 => ?_)
      obtain ⟨hr_5, hbr_5⟩ := hr_5
      have hE := hE.trans (spLet_eq hr_5)
      refine lv_if_eq (tgt := 39) hx hb dX9_isPosition_32 (by decide) (fun c_6 => ?_) (fun c_6 => ?_)
      ·
        have hE := hE.trans (if_pos c_6)
        refine lv_iconst (v := 0) hx hb dX9_isPosition_39 (by decide) ?_
        exact W.zret (v := (0 : Int32)) hx hb hr rfl (fun t ht hW => ⟨_, rfl, ⟨hE.symm, (by decide)⟩, ht⟩) (fun q h => by cases h) dX9_isPosition_40
      ·
        have hE := hE.trans (if_neg c_6)
        refine lv_iconst (v := 1) hx hb dX9_isPosition_35 (by decide) ?_
        refine lv_goto (tgt := 40) hx hb dX9_isPosition_36 (by decide) ?_
        exact W.zret (v := (1 : Int32)) hx hb hr rfl (fun t ht hW => ⟨_, rfl, ⟨hE.symm, (by decide)⟩, ht⟩) (fun q h => by cases h) dX9_isPosition_40
def m_setBoom (svc : Int32) (zs : Nat → Int32) (zv : Nat → Int32) (le : Int32) (an : Int32) (sl : Int32) : Int32 × Int32 × Int32 × (Nat → Int32) × (Nat → Int32) :=
  spLet (m_isPosition le an sl) (fun r_1 => if r_1 = 0 then (spLet (m_fails (1 : Int32)) (fun u_12 => ((u_12.1), svc, (u_12.2), zs, zv))) else (if (zs 4) = 0 then (spLet (m_keep svc zs zv) (fun u_4 => spLet (upd zs 0 le) (fun f_5 => spLet (upd f_5 1 an) (fun f_6 => spLet (upd f_6 2 sl) (fun f_7 => spLet (upd f_7 3 (0 : Int32)) (fun f_8 => spLet (m_violation f_8) (fun r_9 => (r_9, (u_4.1), (0 : Int32), f_8, (u_4.2))))))))) else (spLet (m_fails (2 : Int32)) (fun u_10 => ((u_10.1), svc, (u_10.2), zs, zv)))))
set_option maxHeartbeats 1000000 in
set_option maxRecDepth 100000 in
theorem c_X9_setBoom (l : Launch) (dC : Nat → ClassId) (dI : Nat → Nat → Nat) (cyI : ClassId) (sz : Nat) (q0 : Nat) (q1 : Nat) (q2 : Nat) (q3 : Nat) (q4 : Nat) (q5 : Nat) (q6 : Nat) (svc : Int32) (tl : Int32) (cde : Int32) (mm : Int32) (mr : Int32) (ati : Int32) (ors : Int32) (zs : Nat → Int32) (zv : Nat → Int32) (zt : Nat → Int32) (zp : Nat → Int32) (zm : Nat → Int32) (zk : Nat → Int32) (le : Int32) (an : Int32) (sl : Int32) (hsv : svc = nI svc.toNatClampNeg) (hs4 : svc.toNatClampNeg ≤ 4) (hG : mG zs) : Met l yX9_setBoom wqX9_setBoom ({ frames := 5, cells := 0, slots := 0, locals := 108 } : Room) (va_Pc [.ref q0, .int le, .int an, .int sl] (pC (dC, dI) [(q0, .inr (9, [.ref q1, .ref q2, .int svc, .ref q3, .int tl, .int cde, .int mm, .int mr, .ref q4, .int ati, .int ors, .ref q5, .ref q6])), (q1, .inl (cyI, 246, .inl zs)), (q2, .inl (cyI, 984, .inl zv)), (q3, .inl (cyI, 80, .inl zt)), (q4, .inl (cyI, 5, .inl zp)), (q5, .inl (cyI, 40, .inl zm)), (q6, .inl (cyI, 40, .inl zk))] [(cyI, .int)] eM sz)) (va_Qi (fun (r : Int32) (u : Int32 × Int32 × Int32 × (Nat → Int32) × (Nat → Int32)) => u = (m_setBoom svc zs zv le an sl) ∧ r = u.1) (fun (u : Int32 × Int32 × Int32 × (Nat → Int32) × (Nat → Int32)) t => va_P (dC, dI) vwCl [(q0, .inr (9, [.ref q1, .ref q2, .int (u.2.1), .ref q3, .int tl, .int (u.2.2.1), .int mm, .int mr, .ref q4, .int ati, .int ors, .ref q5, .ref q6])), (q1, .inl (cyI, 246, .inl (u.2.2.2.1))), (q2, .inl (cyI, 984, .inl (u.2.2.2.2))), (q3, .inl (cyI, 80, .inl zt)), (q4, .inl (cyI, 5, .inl zp)), (q5, .inl (cyI, 40, .inl zm)), (q6, .inl (cyI, 40, .inl zk))] t.heap ∧ va_D (va_A [(q0, .inr (9, [.ref q1, .ref q2, .int svc, .ref q3, .int tl, .int cde, .int mm, .int mr, .ref q4, .int ati, .int ors, .ref q5, .ref q6])), (q1, .inl (cyI, 246, .inl zs)), (q2, .inl (cyI, 984, .inl zv)), (q3, .inl (cyI, 80, .inl zt)), (q4, .inl (cyI, 5, .inl zp)), (q5, .inl (cyI, 40, .inl zm)), (q6, .inl (cyI, 40, .inl zk))] sz) [(q0, .inr (9, [.ref q1, .ref q2, .int (u.2.1), .ref q3, .int tl, .int (u.2.2.1), .int mm, .int mr, .ref q4, .int ati, .int ors, .ref q5, .ref q6])), (q1, .inl (cyI, 246, .inl (u.2.2.2.1))), (q2, .inl (cyI, 984, .inl (u.2.2.2.2))), (q3, .inl (cyI, 80, .inl zt)), (q4, .inl (cyI, 5, .inl zp)), (q5, .inl (cyI, 40, .inl zm)), (q6, .inl (cyI, 40, .inl zk))]) (va_A [(q0, .inr (9, [.ref q1, .ref q2, .int svc, .ref q3, .int tl, .int cde, .int mm, .int mr, .ref q4, .int ati, .int ors, .ref q5, .ref q6])), (q1, .inl (cyI, 246, .inl zs)), (q2, .inl (cyI, 984, .inl zv)), (q3, .inl (cyI, 80, .inl zt)), (q4, .inl (cyI, 5, .inl zp)), (q5, .inl (cyI, 40, .inl zm)), (q6, .inl (cyI, 40, .inl zk))] sz)) 0 0 (va_A [(q0, .inr (9, [.ref q1, .ref q2, .int svc, .ref q3, .int tl, .int cde, .int mm, .int mr, .ref q4, .int ati, .int ors, .ref q5, .ref q6])), (q1, .inl (cyI, 246, .inl zs)), (q2, .inl (cyI, 984, .inl zv)), (q3, .inl (cyI, 80, .inl zt)), (q4, .inl (cyI, 5, .inl zp)), (q5, .inl (cyI, 40, .inl zm)), (q6, .inl (cyI, 40, .inl zk))] sz) := by
  refine Met.ofW (cc := cX9_setBoom) (maxL := 4) (ret := (some .int)) (by decide) rfl ?_
  intro p e s m args below meth c s₁ B hml hv
  obtain ⟨rfl, hsz, hP, hK, hD0, he⟩ := hv
  have hx := B.exec
  have hb := B.bytes
  have hr := B.returns
  have hts := atoms_spec (ws := wqX9_setBoom) B.pre
  have hown : s.vm.findClass RX9 = some m.cls := findClass_of_methodNamed B.named
  have hlocks := B.notSynchronized
  have w_0 := hts (Cond.fieldLink RX9 28 "CraneLimiterModel" "code" "I") (List.mem_cons_of_mem _ b_181)
  have w_1 := hts (Cond.fieldLink RX9 7 "CraneLimiterModel" "s" "[I") (List.mem_cons_of_mem _ b_93)
  have i_X9 : ∀ w ∈ u_ws RX9 TX9 13, w ∈ wqX9_setBoom := fun w h => List.mem_cons_of_mem _ (bX9 w h)
  subst hsz
  have hD := hD0.self (sz := s.heap.size)
  generalize hAe : va_A [(q0, .inr (9, [.ref q1, .ref q2, .int svc, .ref q3, .int tl, .int cde, .int mm, .int mr, .ref q4, .int ati, .int ors, .ref q5, .ref q6])), (q1, .inl (cyI, 246, .inl zs)), (q2, .inl (cyI, 984, .inl zv)), (q3, .inl (cyI, 80, .inl zt)), (q4, .inl (cyI, 5, .inl zp)), (q5, .inl (cyI, 40, .inl zm)), (q6, .inl (cyI, 40, .inl zk))] s.heap.size = A at hD he ⊢
  have hA : ∀ q : Nat, s.heap.size ≤ q → A q := fun q h => by rw [← hAe]; exact Or.inr h
  have hS : va_S A s.heap s.heap [] := va_S.rf
  have hP : va_P (dC, dI) vwCl [(q0, .inr (9, [.ref q1, .ref q2, .int svc, .ref q3, .int tl, .int cde, .int mm, .int mr, .ref q4, .int ati, .int ors, .ref q5, .ref q6])), (q1, .inl (cyI, 246, .inl zs)), (q2, .inl (cyI, 984, .inl zv)), (q3, .inl (cyI, 80, .inl zt)), (q4, .inl (cyI, 5, .inl zp)), (q5, .inl (cyI, 40, .inl zm)), (q6, .inl (cyI, 40, .inl zk))] s.heap := hP
  have hl := lv_entry ([.ref q0, .int le, .int an, .int sl] : List Value) (n := 4) (Nat.le_of_ble_eq_true rfl)
  rw [lg_entry_eq]
  generalize (lg_sl ([.ref q0, .int le, .int an, .int sl] : List Value) ++ List.replicate (4 - (lg_sl ([.ref q0, .int le, .int an, .int sl] : List Value)).length) Slot.unset).toArray = ls at hl ⊢
  have hl : lv_has ls 4 [(0, .ref q0), (1, .int le), (2, .int an), (3, .int sl)] := hl
  have hE : m_setBoom svc zs zv le an sl = m_setBoom svc zs zv le an sl := rfl
  refine lv_aload_n hx hb dX9_setBoom_0 rfl (lv_at hl 0 rfl) ?_
  refine lv_iconst (v := 0) hx hb dX9_setBoom_1 (by decide) ?_
  refine va_put (D := (dC, dI)) (ci := 9) (v := .int (0 : Int32)) (ty := .int) (C := RX9) (T := TX9) (N := 13) hx hb hts i_X9 tyX9 tyX9_ok nmX9 hown hK hP hD hS 0 rfl rfl 5 (by decide) w_0 (fun _ h9 => h9) rfl (by decide +kernel) (rfl) (rfl) (Nat.le_of_ble_eq_true rfl) dX9_setBoom_2 (fun H locs hP hD hS => ?_)
  have hP : va_P (dC, dI) vwCl [(q0, .inr (9, [.ref q1, .ref q2, .int svc, .ref q3, .int tl, .int (0 : Int32), .int mm, .int mr, .ref q4, .int ati, .int ors, .ref q5, .ref q6])), (q1, .inl (cyI, 246, .inl zs)), (q2, .inl (cyI, 984, .inl zv)), (q3, .inl (cyI, 80, .inl zt)), (q4, .inl (cyI, 5, .inl zp)), (q5, .inl (cyI, 40, .inl zm)), (q6, .inl (cyI, 40, .inl zk))] H := hP
  have hD : va_D A [(q0, .inr (9, [.ref q1, .ref q2, .int svc, .ref q3, .int tl, .int (0 : Int32), .int mm, .int mr, .ref q4, .int ati, .int ors, .ref q5, .ref q6])), (q1, .inl (cyI, 246, .inl zs)), (q2, .inl (cyI, 984, .inl zv)), (q3, .inl (cyI, 80, .inl zt)), (q4, .inl (cyI, 5, .inl zp)), (q5, .inl (cyI, 40, .inl zm)), (q6, .inl (cyI, 40, .inl zk))] := hD
  refine lv_iload_n hx hb dX9_setBoom_5 rfl (lv_at hl 1 rfl) ?_
  refine lv_iload_n hx hb dX9_setBoom_6 rfl (lv_at hl 2 rfl) ?_
  refine lv_iload_n hx hb dX9_setBoom_7 rfl (lv_at hl 3 rfl) ?_
  refine vp_callSi (W.runS (As := [.int le, .int an, .int sl]) (rest := []) ⟨hx, hb, hml, hown, hts⟩ (c_X9_isPosition l dC dI cyI le an sl) (va_cwS 3 hts (gBS b_373 b_374 b_5 b_375) rfl rfl rfl (by decide +kernel) ⟨Nat.le_of_ble_eq_true rfl, Nat.le_of_ble_eq_true rfl⟩) (pre_s eM_ok he hS (hP.sub (ws' := []) [] rfl) (hK.sub (tys' := []) [] rfl)) rfl rfl hl.1 rfl (lv_room (Nat.le_of_ble_eq_true rfl)) dX9_setBoom_8 ⟨Nat.zero_le _, Nat.zero_le _⟩) (fun r_1 hr_1 => ?_)
  obtain ⟨hr_1, hbr_1⟩ := hr_1
  have hE := hE.trans (spLet_eq hr_1)
  refine lv_if_ne (tgt := 20) hx hb dX9_setBoom_11 (by decide) (fun c_2 => ?_) (fun c_2 => ?_)
  ·
    have hE := hE.trans (if_neg c_2)
    refine lv_aload_n hx hb dX9_setBoom_20 rfl (lv_at hl 0 rfl) ?_
    refine va_get (D := (dC, dI)) (ci := 9) (v := .ref q1) (C := RX9) (T := TX9) (N := 13) hx hb hts i_X9 hown hK hP 0 rfl rfl 0 (by decide) w_1 (fun _ h9 => h9) rfl dX9_setBoom_21 ?_
    refine lv_iconst (v := 4) hx hb dX9_setBoom_24 (by decide) ?_
    refine ra_ld hx hb hK hP 1 0 rfl rfl (j := 4) (rfl : (4 : Int32) = nI 4) (by omega) (by omega) dX9_setBoom_25 ?_
    refine lv_if_eq (tgt := 35) hx hb dX9_setBoom_26 (by decide) (fun c_3 => ?_) (fun c_3 => ?_)
    ·
      have hE := hE.trans (if_pos c_3)
      refine lv_aload_n hx hb dX9_setBoom_35 rfl (lv_at hl 0 rfl) ?_
      refine mj_v (wr := []) (va_runV (As := []) (rest := []) ⟨hx, hb, hml, hown, hts⟩ (c_X9_keep l dC dI cyI H.size q0 q1 q2 q3 q4 q5 q6 svc tl (0 : Int32) mm mr ati ors zs zv zt zp zm zk hsv hs4) (cwV 0 hts (gBV b_193 b_194 b_195 b_5 b_196) rfl rfl rfl (by decide +kernel) ⟨Nat.le_of_ble_eq_true rfl, Nat.le_of_ble_eq_true rfl⟩) (prm_v eM_ok he hS hP hD hK (va_free (wc := [(q0, .inr (9, [.ref q1, .ref q2, .int svc, .ref q3, .int tl, .int (0 : Int32), .int mm, .int mr, .ref q4, .int ati, .int ors, .ref q5, .ref q6])), (q1, .inl (cyI, 246, .inl zs)), (q2, .inl (cyI, 984, .inl zv)), (q3, .inl (cyI, 80, .inl zt)), (q4, .inl (cyI, 5, .inl zp)), (q5, .inl (cyI, 40, .inl zm)), (q6, .inl (cyI, 40, .inl zk))]) hD hS hA [0, 1, 2, 3, 4, 5, 6] rfl) 0 rfl rfl rfl) rfl rfl hl.1 rfl (lv_room (Nat.le_of_ble_eq_true rfl)) dX9_setBoom_36 ⟨Nat.le_of_ble_eq_true rfl, Nat.le_of_ble_eq_true rfl⟩) hP hD hS hA [0, 1, 2, 3, 4, 5, 6] [] rfl rfl (by decide) (by decide) (fun u_4 H locs hw hP hD hS => ?_)
      have hu_4 := hw
      have hE := hE.trans (spLet_eq hu_4)
      have hP : va_P (dC, dI) vwCl [(q0, .inr (9, [.ref q1, .ref q2, .int (u_4.1), .ref q3, .int tl, .int (0 : Int32), .int mm, .int mr, .ref q4, .int ati, .int ors, .ref q5, .ref q6])), (q1, .inl (cyI, 246, .inl zs)), (q2, .inl (cyI, 984, .inl (u_4.2))), (q3, .inl (cyI, 80, .inl zt)), (q4, .inl (cyI, 5, .inl zp)), (q5, .inl (cyI, 40, .inl zm)), (q6, .inl (cyI, 40, .inl zk))] H := hP
      have hD : va_D A [(q0, .inr (9, [.ref q1, .ref q2, .int (u_4.1), .ref q3, .int tl, .int (0 : Int32), .int mm, .int mr, .ref q4, .int ati, .int ors, .ref q5, .ref q6])), (q1, .inl (cyI, 246, .inl zs)), (q2, .inl (cyI, 984, .inl (u_4.2))), (q3, .inl (cyI, 80, .inl zt)), (q4, .inl (cyI, 5, .inl zp)), (q5, .inl (cyI, 40, .inl zm)), (q6, .inl (cyI, 40, .inl zk))] := hD
      refine lv_aload_n hx hb dX9_setBoom_39 rfl (lv_at hl 0 rfl) ?_
      refine va_get (D := (dC, dI)) (ci := 9) (v := .ref q1) (C := RX9) (T := TX9) (N := 13) hx hb hts i_X9 hown hK hP 0 rfl rfl 0 (by decide) w_1 (fun _ h9 => h9) rfl dX9_setBoom_40 ?_
      refine lv_iconst (v := 0) hx hb dX9_setBoom_43 (by decide) ?_
      refine lv_iload_n hx hb dX9_setBoom_44 rfl (lv_at hl 1 rfl) ?_
      refine ra_st hx hb hK hP hD hS 1 0 rfl rfl (j := 0) (rfl : (0 : Int32) = nI 0) (by omega) (by omega) dX9_setBoom_45 (fun H locs hP hD hS => ?_)
      have hP : va_P (dC, dI) vwCl [(q0, .inr (9, [.ref q1, .ref q2, .int (u_4.1), .ref q3, .int tl, .int (0 : Int32), .int mm, .int mr, .ref q4, .int ati, .int ors, .ref q5, .ref q6])), (q1, .inl (cyI, 246, .inl (upd zs 0 le))), (q2, .inl (cyI, 984, .inl (u_4.2))), (q3, .inl (cyI, 80, .inl zt)), (q4, .inl (cyI, 5, .inl zp)), (q5, .inl (cyI, 40, .inl zm)), (q6, .inl (cyI, 40, .inl zk))] H := hP
      have hD : va_D A [(q0, .inr (9, [.ref q1, .ref q2, .int (u_4.1), .ref q3, .int tl, .int (0 : Int32), .int mm, .int mr, .ref q4, .int ati, .int ors, .ref q5, .ref q6])), (q1, .inl (cyI, 246, .inl (upd zs 0 le))), (q2, .inl (cyI, 984, .inl (u_4.2))), (q3, .inl (cyI, 80, .inl zt)), (q4, .inl (cyI, 5, .inl zp)), (q5, .inl (cyI, 40, .inl zm)), (q6, .inl (cyI, 40, .inl zk))] := hD
      obtain ⟨f_5, ef_5⟩ : ∃ y : Nat → Int32, y = upd zs 0 le := ⟨_, rfl⟩
      rw [← ef_5] at hP hD
      have hE := hE.trans (spLet_eq ef_5)
      refine lv_aload_n hx hb dX9_setBoom_46 rfl (lv_at hl 0 rfl) ?_
      refine va_get (D := (dC, dI)) (ci := 9) (v := .ref q1) (C := RX9) (T := TX9) (N := 13) hx hb hts i_X9 hown hK hP 0 rfl rfl 0 (by decide) w_1 (fun _ h9 => h9) rfl dX9_setBoom_47 ?_
      refine lv_iconst (v := 1) hx hb dX9_setBoom_50 (by decide) ?_
      refine lv_iload_n hx hb dX9_setBoom_51 rfl (lv_at hl 2 rfl) ?_
      refine ra_st hx hb hK hP hD hS 1 0 rfl rfl (j := 1) (rfl : (1 : Int32) = nI 1) (by omega) (by omega) dX9_setBoom_52 (fun H locs hP hD hS => ?_)
      have hP : va_P (dC, dI) vwCl [(q0, .inr (9, [.ref q1, .ref q2, .int (u_4.1), .ref q3, .int tl, .int (0 : Int32), .int mm, .int mr, .ref q4, .int ati, .int ors, .ref q5, .ref q6])), (q1, .inl (cyI, 246, .inl (upd f_5 1 an))), (q2, .inl (cyI, 984, .inl (u_4.2))), (q3, .inl (cyI, 80, .inl zt)), (q4, .inl (cyI, 5, .inl zp)), (q5, .inl (cyI, 40, .inl zm)), (q6, .inl (cyI, 40, .inl zk))] H := hP
      have hD : va_D A [(q0, .inr (9, [.ref q1, .ref q2, .int (u_4.1), .ref q3, .int tl, .int (0 : Int32), .int mm, .int mr, .ref q4, .int ati, .int ors, .ref q5, .ref q6])), (q1, .inl (cyI, 246, .inl (upd f_5 1 an))), (q2, .inl (cyI, 984, .inl (u_4.2))), (q3, .inl (cyI, 80, .inl zt)), (q4, .inl (cyI, 5, .inl zp)), (q5, .inl (cyI, 40, .inl zm)), (q6, .inl (cyI, 40, .inl zk))] := hD
      obtain ⟨f_6, ef_6⟩ : ∃ y : Nat → Int32, y = upd f_5 1 an := ⟨_, rfl⟩
      rw [← ef_6] at hP hD
      have hE := hE.trans (spLet_eq ef_6)
      refine lv_aload_n hx hb dX9_setBoom_53 rfl (lv_at hl 0 rfl) ?_
      refine va_get (D := (dC, dI)) (ci := 9) (v := .ref q1) (C := RX9) (T := TX9) (N := 13) hx hb hts i_X9 hown hK hP 0 rfl rfl 0 (by decide) w_1 (fun _ h9 => h9) rfl dX9_setBoom_54 ?_
      refine lv_iconst (v := 2) hx hb dX9_setBoom_57 (by decide) ?_
      refine lv_iload_n hx hb dX9_setBoom_58 rfl (lv_at hl 3 rfl) ?_
      refine ra_st hx hb hK hP hD hS 1 0 rfl rfl (j := 2) (rfl : (2 : Int32) = nI 2) (by omega) (by omega) dX9_setBoom_59 (fun H locs hP hD hS => ?_)
      have hP : va_P (dC, dI) vwCl [(q0, .inr (9, [.ref q1, .ref q2, .int (u_4.1), .ref q3, .int tl, .int (0 : Int32), .int mm, .int mr, .ref q4, .int ati, .int ors, .ref q5, .ref q6])), (q1, .inl (cyI, 246, .inl (upd f_6 2 sl))), (q2, .inl (cyI, 984, .inl (u_4.2))), (q3, .inl (cyI, 80, .inl zt)), (q4, .inl (cyI, 5, .inl zp)), (q5, .inl (cyI, 40, .inl zm)), (q6, .inl (cyI, 40, .inl zk))] H := hP
      have hD : va_D A [(q0, .inr (9, [.ref q1, .ref q2, .int (u_4.1), .ref q3, .int tl, .int (0 : Int32), .int mm, .int mr, .ref q4, .int ati, .int ors, .ref q5, .ref q6])), (q1, .inl (cyI, 246, .inl (upd f_6 2 sl))), (q2, .inl (cyI, 984, .inl (u_4.2))), (q3, .inl (cyI, 80, .inl zt)), (q4, .inl (cyI, 5, .inl zp)), (q5, .inl (cyI, 40, .inl zm)), (q6, .inl (cyI, 40, .inl zk))] := hD
      obtain ⟨f_7, ef_7⟩ : ∃ y : Nat → Int32, y = upd f_6 2 sl := ⟨_, rfl⟩
      rw [← ef_7] at hP hD
      have hE := hE.trans (spLet_eq ef_7)
      refine lv_aload_n hx hb dX9_setBoom_60 rfl (lv_at hl 0 rfl) ?_
      refine va_get (D := (dC, dI)) (ci := 9) (v := .ref q1) (C := RX9) (T := TX9) (N := 13) hx hb hts i_X9 hown hK hP 0 rfl rfl 0 (by decide) w_1 (fun _ h9 => h9) rfl dX9_setBoom_61 ?_
      refine lv_iconst (v := 3) hx hb dX9_setBoom_64 (by decide) ?_
      refine lv_iconst (v := 0) hx hb dX9_setBoom_65 (by decide) ?_
      refine ra_st hx hb hK hP hD hS 1 0 rfl rfl (j := 3) (rfl : (3 : Int32) = nI 3) (by omega) (by omega) dX9_setBoom_66 (fun H locs hP hD hS => ?_)
      have hP : va_P (dC, dI) vwCl [(q0, .inr (9, [.ref q1, .ref q2, .int (u_4.1), .ref q3, .int tl, .int (0 : Int32), .int mm, .int mr, .ref q4, .int ati, .int ors, .ref q5, .ref q6])), (q1, .inl (cyI, 246, .inl (upd f_7 3 (0 : Int32)))), (q2, .inl (cyI, 984, .inl (u_4.2))), (q3, .inl (cyI, 80, .inl zt)), (q4, .inl (cyI, 5, .inl zp)), (q5, .inl (cyI, 40, .inl zm)), (q6, .inl (cyI, 40, .inl zk))] H := hP
      have hD : va_D A [(q0, .inr (9, [.ref q1, .ref q2, .int (u_4.1), .ref q3, .int tl, .int (0 : Int32), .int mm, .int mr, .ref q4, .int ati, .int ors, .ref q5, .ref q6])), (q1, .inl (cyI, 246, .inl (upd f_7 3 (0 : Int32)))), (q2, .inl (cyI, 984, .inl (u_4.2))), (q3, .inl (cyI, 80, .inl zt)), (q4, .inl (cyI, 5, .inl zp)), (q5, .inl (cyI, 40, .inl zm)), (q6, .inl (cyI, 40, .inl zk))] := hD
      obtain ⟨f_8, ef_8⟩ : ∃ y : Nat → Int32, y = upd f_7 3 (0 : Int32) := ⟨_, rfl⟩
      rw [← ef_8] at hP hD
      have hE := hE.trans (spLet_eq ef_8)
      refine lv_aload_n hx hb dX9_setBoom_67 rfl (lv_at hl 0 rfl) ?_
      refine vp_callSi (W.runV (As := []) (rest := []) ⟨hx, hb, hml, hown, hts⟩ (c_X9_violation l dC dI cyI q0 q1 q2 q3 q4 q5 q6 (u_4.1) tl (0 : Int32) mm mr ati ors f_8 (u_4.2) zt zp zm zk (sb_z ef_5 ef_6 ef_7 ef_8 hG).1 (sb_z ef_5 ef_6 ef_7 ef_8 hG).2) (cwV 0 hts (gBV b_376 b_377 b_378 b_5 b_379) rfl rfl rfl (by decide +kernel) ⟨Nat.le_of_ble_eq_true rfl, Nat.le_of_ble_eq_true rfl⟩) (pre_v eM_ok he hS hP hK 0 rfl rfl rfl) rfl rfl hl.1 rfl (lv_room (Nat.le_of_ble_eq_true rfl)) dX9_setBoom_68 ⟨Nat.zero_le _, Nat.zero_le _⟩) (fun r_9 hr_9 => ?_)
      have hE := hE.trans (spLet_eq hr_9)
      exact W.iret (v := r_9) hx hb hr (fun t h9 hW => ⟨⟨r_9, ((r_9, (u_4.1), (0 : Int32), f_8, (u_4.2)) : Int32 × Int32 × Int32 × (Nat → Int32) × (Nat → Int32)), rfl, ⟨hE.symm, rfl⟩, by rw [h9]; exact hP, hD⟩, hS.F h9⟩) hS.2.2 dX9_setBoom_71
    ·
      have hE := hE.trans (if_neg c_3)
      refine lv_aload_n hx hb dX9_setBoom_29 rfl (lv_at hl 0 rfl) ?_
      refine lv_iconst (v := 2) hx hb dX9_setBoom_30 (by decide) ?_
      refine mj_i (wr := []) (va_runV (As := [.int (2 : Int32)]) (rest := []) ⟨hx, hb, hml, hown, hts⟩ (c_X9_fails l dC dI cyI H.size q0 q1 q2 q3 q4 q5 q6 svc tl (0 : Int32) mm mr ati ors zs zv zt zp zm zk (2 : Int32)) (cwV 1 hts (gBV b_185 b_186 b_187 b_5 b_188) rfl rfl rfl (by decide +kernel) ⟨Nat.le_of_ble_eq_true rfl, Nat.le_of_ble_eq_true rfl⟩) (prm_v eM_ok he hS hP hD hK (va_free (wc := [(q0, .inr (9, [.ref q1, .ref q2, .int svc, .ref q3, .int tl, .int (0 : Int32), .int mm, .int mr, .ref q4, .int ati, .int ors, .ref q5, .ref q6])), (q1, .inl (cyI, 246, .inl zs)), (q2, .inl (cyI, 984, .inl zv)), (q3, .inl (cyI, 80, .inl zt)), (q4, .inl (cyI, 5, .inl zp)), (q5, .inl (cyI, 40, .inl zm)), (q6, .inl (cyI, 40, .inl zk))]) hD hS hA [0, 1, 2, 3, 4, 5, 6] rfl) 0 rfl rfl rfl) rfl rfl hl.1 rfl (lv_room (Nat.le_of_ble_eq_true rfl)) dX9_setBoom_31 ⟨Nat.le_of_ble_eq_true rfl, Nat.le_of_ble_eq_true rfl⟩) hP hD hS hA [0, 1, 2, 3, 4, 5, 6] [] rfl rfl (by decide) (by decide) (fun r_11 u_10 H locs hw hP hD hS => ?_)
      obtain ⟨hu_10, rfl⟩ := hw
      have hE := hE.trans (spLet_eq hu_10)
      have hP : va_P (dC, dI) vwCl [(q0, .inr (9, [.ref q1, .ref q2, .int svc, .ref q3, .int tl, .int (u_10.2), .int mm, .int mr, .ref q4, .int ati, .int ors, .ref q5, .ref q6])), (q1, .inl (cyI, 246, .inl zs)), (q2, .inl (cyI, 984, .inl zv)), (q3, .inl (cyI, 80, .inl zt)), (q4, .inl (cyI, 5, .inl zp)), (q5, .inl (cyI, 40, .inl zm)), (q6, .inl (cyI, 40, .inl zk))] H := hP
      have hD : va_D A [(q0, .inr (9, [.ref q1, .ref q2, .int svc, .ref q3, .int tl, .int (u_10.2), .int mm, .int mr, .ref q4, .int ati, .int ors, .ref q5, .ref q6])), (q1, .inl (cyI, 246, .inl zs)), (q2, .inl (cyI, 984, .inl zv)), (q3, .inl (cyI, 80, .inl zt)), (q4, .inl (cyI, 5, .inl zp)), (q5, .inl (cyI, 40, .inl zm)), (q6, .inl (cyI, 40, .inl zk))] := hD
      exact W.iret (v := (u_10.1)) hx hb hr (fun t h9 hW => ⟨⟨(u_10.1), (((u_10.1), svc, (u_10.2), zs, zv) : Int32 × Int32 × Int32 × (Nat → Int32) × (Nat → Int32)), rfl, ⟨hE.symm, rfl⟩, by rw [h9]; exact hP, hD⟩, hS.F h9⟩) hS.2.2 dX9_setBoom_34
  ·
    have hE := hE.trans (if_pos c_2)
    refine lv_aload_n hx hb dX9_setBoom_14 rfl (lv_at hl 0 rfl) ?_
    refine lv_iconst (v := 1) hx hb dX9_setBoom_15 (by decide) ?_
    refine mj_i (wr := []) (va_runV (As := [.int (1 : Int32)]) (rest := []) ⟨hx, hb, hml, hown, hts⟩ (c_X9_fails l dC dI cyI H.size q0 q1 q2 q3 q4 q5 q6 svc tl (0 : Int32) mm mr ati ors zs zv zt zp zm zk (1 : Int32)) (cwV 1 hts (gBV b_185 b_186 b_187 b_5 b_188) rfl rfl rfl (by decide +kernel) ⟨Nat.le_of_ble_eq_true rfl, Nat.le_of_ble_eq_true rfl⟩) (prm_v eM_ok he hS hP hD hK (va_free (wc := [(q0, .inr (9, [.ref q1, .ref q2, .int svc, .ref q3, .int tl, .int (0 : Int32), .int mm, .int mr, .ref q4, .int ati, .int ors, .ref q5, .ref q6])), (q1, .inl (cyI, 246, .inl zs)), (q2, .inl (cyI, 984, .inl zv)), (q3, .inl (cyI, 80, .inl zt)), (q4, .inl (cyI, 5, .inl zp)), (q5, .inl (cyI, 40, .inl zm)), (q6, .inl (cyI, 40, .inl zk))]) hD hS hA [0, 1, 2, 3, 4, 5, 6] rfl) 0 rfl rfl rfl) rfl rfl hl.1 rfl (lv_room (Nat.le_of_ble_eq_true rfl)) dX9_setBoom_16 ⟨Nat.le_of_ble_eq_true rfl, Nat.le_of_ble_eq_true rfl⟩) hP hD hS hA [0, 1, 2, 3, 4, 5, 6] [] rfl rfl (by decide) (by decide) (fun r_13 u_12 H locs hw hP hD hS => ?_)
    obtain ⟨hu_12, rfl⟩ := hw
    have hE := hE.trans (spLet_eq hu_12)
    have hP : va_P (dC, dI) vwCl [(q0, .inr (9, [.ref q1, .ref q2, .int svc, .ref q3, .int tl, .int (u_12.2), .int mm, .int mr, .ref q4, .int ati, .int ors, .ref q5, .ref q6])), (q1, .inl (cyI, 246, .inl zs)), (q2, .inl (cyI, 984, .inl zv)), (q3, .inl (cyI, 80, .inl zt)), (q4, .inl (cyI, 5, .inl zp)), (q5, .inl (cyI, 40, .inl zm)), (q6, .inl (cyI, 40, .inl zk))] H := hP
    have hD : va_D A [(q0, .inr (9, [.ref q1, .ref q2, .int svc, .ref q3, .int tl, .int (u_12.2), .int mm, .int mr, .ref q4, .int ati, .int ors, .ref q5, .ref q6])), (q1, .inl (cyI, 246, .inl zs)), (q2, .inl (cyI, 984, .inl zv)), (q3, .inl (cyI, 80, .inl zt)), (q4, .inl (cyI, 5, .inl zp)), (q5, .inl (cyI, 40, .inl zm)), (q6, .inl (cyI, 40, .inl zk))] := hD
    exact W.iret (v := (u_12.1)) hx hb hr (fun t h9 hW => ⟨⟨(u_12.1), (((u_12.1), svc, (u_12.2), zs, zv) : Int32 × Int32 × Int32 × (Nat → Int32) × (Nat → Int32)), rfl, ⟨hE.symm, rfl⟩, by rw [h9]; exact hP, hD⟩, hS.F h9⟩) hS.2.2 dX9_setBoom_19
def m_fillTable_b42 (ta : Int32) (mo : Int32) (u_5 : Int32 × (Nat → Int32)) (rec42 : Nat → (Nat → Int32) → (Int32 × Int32 × Int32 × (Nat → Int32) × (Nat → Int32))) : Nat → (Nat → Int32) → (Int32 × Int32 × Int32 × (Nat → Int32) × (Nat → Int32)) :=
  fun k3_42 w1_a_42 => if 24 ≤ k3_42 then (spLet (m_sumOf_p w1_a_42 ta) (fun r_7 => (r_7, (u_5.1), (0 : Int32), w1_a_42, (u_5.2)))) else (spLet (m_columnRadius ((nI k3_42) - (nI k3_42) / (6 : Int32) * (6 : Int32))) (fun r_8 => spLet (m_lesser (100000 : Int32) (((1000 : Int32) * mo) / r_8)) (fun r_9 => spLet (((r_9 * ((10 : Int32) - ((nI k3_42) / (6 : Int32)))) / (10 : Int32))) (fun x_12 => spLet (upd w1_a_42 ((47 + (24 * ta.toNatClampNeg)) + k3_42) x_12) (fun f_13 => rec42 (k3_42 + 1) f_13)))))
def m_fillTable (svc : Int32) (zs : Nat → Int32) (zv : Nat → Int32) (ta : Int32) (mo : Int32) : Int32 × Int32 × Int32 × (Nat → Int32) × (Nat → Int32) :=
  spLet (m_in ta (0 : Int32) (3 : Int32)) (fun r_1 => if r_1 = 0 then (spLet (m_fails (1 : Int32)) (fun u_16 => ((u_16.1), svc, (u_16.2), zs, zv))) else (spLet (m_in mo (0 : Int32) (1000000 : Int32)) (fun r_3 => if r_3 = 0 then (spLet (m_fails (2 : Int32)) (fun u_14 => ((u_14.1), svc, (u_14.2), zs, zv))) else (spLet (m_keep svc zs zv) (fun u_5 => spIter (fun _ _ => default) (m_fillTable_b42 ta mo u_5) 25 0 zs)))))
set_option maxHeartbeats 1000000 in
set_option maxRecDepth 100000 in
theorem c_X9_fillTable (l : Launch) (dC : Nat → ClassId) (dI : Nat → Nat → Nat) (cyI : ClassId) (sz : Nat) (q0 : Nat) (q1 : Nat) (q2 : Nat) (q3 : Nat) (q4 : Nat) (q5 : Nat) (q6 : Nat) (svc : Int32) (tl : Int32) (cde : Int32) (mm : Int32) (mr : Int32) (ati : Int32) (ors : Int32) (zs : Nat → Int32) (zv : Nat → Int32) (zt : Nat → Int32) (zp : Nat → Int32) (zm : Nat → Int32) (zk : Nat → Int32) (ta : Int32) (mo : Int32) (hsv : svc = nI svc.toNatClampNeg) (hs4 : svc.toNatClampNeg ≤ 4) (hG : mG zs) : Met l yX9_fillTable wqX9_fillTable ({ frames := 1, cells := 0, slots := 0, locals := 23 } : Room) (va_Pc [.ref q0, .int ta, .int mo] (pC (dC, dI) [(q0, .inr (9, [.ref q1, .ref q2, .int svc, .ref q3, .int tl, .int cde, .int mm, .int mr, .ref q4, .int ati, .int ors, .ref q5, .ref q6])), (q1, .inl (cyI, 246, .inl zs)), (q2, .inl (cyI, 984, .inl zv)), (q3, .inl (cyI, 80, .inl zt)), (q4, .inl (cyI, 5, .inl zp)), (q5, .inl (cyI, 40, .inl zm)), (q6, .inl (cyI, 40, .inl zk))] [(cyI, .int)] eM sz)) (va_Qi (fun (r : Int32) (u : Int32 × Int32 × Int32 × (Nat → Int32) × (Nat → Int32)) => u = (m_fillTable svc zs zv ta mo) ∧ r = u.1) (fun (u : Int32 × Int32 × Int32 × (Nat → Int32) × (Nat → Int32)) t => va_P (dC, dI) vwCl [(q0, .inr (9, [.ref q1, .ref q2, .int (u.2.1), .ref q3, .int tl, .int (u.2.2.1), .int mm, .int mr, .ref q4, .int ati, .int ors, .ref q5, .ref q6])), (q1, .inl (cyI, 246, .inl (u.2.2.2.1))), (q2, .inl (cyI, 984, .inl (u.2.2.2.2))), (q3, .inl (cyI, 80, .inl zt)), (q4, .inl (cyI, 5, .inl zp)), (q5, .inl (cyI, 40, .inl zm)), (q6, .inl (cyI, 40, .inl zk))] t.heap ∧ va_D (va_A [(q0, .inr (9, [.ref q1, .ref q2, .int svc, .ref q3, .int tl, .int cde, .int mm, .int mr, .ref q4, .int ati, .int ors, .ref q5, .ref q6])), (q1, .inl (cyI, 246, .inl zs)), (q2, .inl (cyI, 984, .inl zv)), (q3, .inl (cyI, 80, .inl zt)), (q4, .inl (cyI, 5, .inl zp)), (q5, .inl (cyI, 40, .inl zm)), (q6, .inl (cyI, 40, .inl zk))] sz) [(q0, .inr (9, [.ref q1, .ref q2, .int (u.2.1), .ref q3, .int tl, .int (u.2.2.1), .int mm, .int mr, .ref q4, .int ati, .int ors, .ref q5, .ref q6])), (q1, .inl (cyI, 246, .inl (u.2.2.2.1))), (q2, .inl (cyI, 984, .inl (u.2.2.2.2))), (q3, .inl (cyI, 80, .inl zt)), (q4, .inl (cyI, 5, .inl zp)), (q5, .inl (cyI, 40, .inl zm)), (q6, .inl (cyI, 40, .inl zk))]) (va_A [(q0, .inr (9, [.ref q1, .ref q2, .int svc, .ref q3, .int tl, .int cde, .int mm, .int mr, .ref q4, .int ati, .int ors, .ref q5, .ref q6])), (q1, .inl (cyI, 246, .inl zs)), (q2, .inl (cyI, 984, .inl zv)), (q3, .inl (cyI, 80, .inl zt)), (q4, .inl (cyI, 5, .inl zp)), (q5, .inl (cyI, 40, .inl zm)), (q6, .inl (cyI, 40, .inl zk))] sz)) 0 0 (va_A [(q0, .inr (9, [.ref q1, .ref q2, .int svc, .ref q3, .int tl, .int cde, .int mm, .int mr, .ref q4, .int ati, .int ors, .ref q5, .ref q6])), (q1, .inl (cyI, 246, .inl zs)), (q2, .inl (cyI, 984, .inl zv)), (q3, .inl (cyI, 80, .inl zt)), (q4, .inl (cyI, 5, .inl zp)), (q5, .inl (cyI, 40, .inl zm)), (q6, .inl (cyI, 40, .inl zk))] sz) := by
  refine Met.ofW (cc := cX9_fillTable) (maxL := 5) (ret := (some .int)) (by decide) rfl ?_
  intro p e s m args below meth c s₁ B hml hv
  obtain ⟨rfl, hsz, hP, hK, hD0, he⟩ := hv
  have hx := B.exec
  have hb := B.bytes
  have hr := B.returns
  have hts := atoms_spec (ws := wqX9_fillTable) B.pre
  have hown : s.vm.findClass RX9 = some m.cls := findClass_of_methodNamed B.named
  have hlocks := B.notSynchronized
  have w_0 := hts (Cond.fieldLink RX9 28 "CraneLimiterModel" "code" "I") (List.mem_cons_of_mem _ b_181)
  have w_1 := hts (Cond.constant RX9 146 (1000000)) (List.mem_cons_of_mem _ b_263)
  have w_2 := hts (Cond.constant RX9 145 (100000)) (List.mem_cons_of_mem _ b_234)
  have w_3 := hts (Cond.fieldLink RX9 7 "CraneLimiterModel" "s" "[I") (List.mem_cons_of_mem _ b_93)
  have i_X9 : ∀ w ∈ u_ws RX9 TX9 13, w ∈ wqX9_fillTable := fun w h => List.mem_cons_of_mem _ (bX9 w h)
  subst hsz
  have hD := hD0.self (sz := s.heap.size)
  generalize hAe : va_A [(q0, .inr (9, [.ref q1, .ref q2, .int svc, .ref q3, .int tl, .int cde, .int mm, .int mr, .ref q4, .int ati, .int ors, .ref q5, .ref q6])), (q1, .inl (cyI, 246, .inl zs)), (q2, .inl (cyI, 984, .inl zv)), (q3, .inl (cyI, 80, .inl zt)), (q4, .inl (cyI, 5, .inl zp)), (q5, .inl (cyI, 40, .inl zm)), (q6, .inl (cyI, 40, .inl zk))] s.heap.size = A at hD he ⊢
  have hA : ∀ q : Nat, s.heap.size ≤ q → A q := fun q h => by rw [← hAe]; exact Or.inr h
  have hS : va_S A s.heap s.heap [] := va_S.rf
  have hP : va_P (dC, dI) vwCl [(q0, .inr (9, [.ref q1, .ref q2, .int svc, .ref q3, .int tl, .int cde, .int mm, .int mr, .ref q4, .int ati, .int ors, .ref q5, .ref q6])), (q1, .inl (cyI, 246, .inl zs)), (q2, .inl (cyI, 984, .inl zv)), (q3, .inl (cyI, 80, .inl zt)), (q4, .inl (cyI, 5, .inl zp)), (q5, .inl (cyI, 40, .inl zm)), (q6, .inl (cyI, 40, .inl zk))] s.heap := hP
  have hl := lv_entry ([.ref q0, .int ta, .int mo] : List Value) (n := 5) (Nat.le_of_ble_eq_true rfl)
  rw [lg_entry_eq]
  generalize (lg_sl ([.ref q0, .int ta, .int mo] : List Value) ++ List.replicate (5 - (lg_sl ([.ref q0, .int ta, .int mo] : List Value)).length) Slot.unset).toArray = ls at hl ⊢
  have hl : lv_has ls 5 [(0, .ref q0), (1, .int ta), (2, .int mo)] := hl
  have hE : m_fillTable svc zs zv ta mo = m_fillTable svc zs zv ta mo := rfl
  refine lv_aload_n hx hb dX9_fillTable_0 rfl (lv_at hl 0 rfl) ?_
  refine lv_iconst (v := 0) hx hb dX9_fillTable_1 (by decide) ?_
  refine va_put (D := (dC, dI)) (ci := 9) (v := .int (0 : Int32)) (ty := .int) (C := RX9) (T := TX9) (N := 13) hx hb hts i_X9 tyX9 tyX9_ok nmX9 hown hK hP hD hS 0 rfl rfl 5 (by decide) w_0 (fun _ h9 => h9) rfl (by decide +kernel) (rfl) (rfl) (Nat.le_of_ble_eq_true rfl) dX9_fillTable_2 (fun H locs hP hD hS => ?_)
  have hP : va_P (dC, dI) vwCl [(q0, .inr (9, [.ref q1, .ref q2, .int svc, .ref q3, .int tl, .int (0 : Int32), .int mm, .int mr, .ref q4, .int ati, .int ors, .ref q5, .ref q6])), (q1, .inl (cyI, 246, .inl zs)), (q2, .inl (cyI, 984, .inl zv)), (q3, .inl (cyI, 80, .inl zt)), (q4, .inl (cyI, 5, .inl zp)), (q5, .inl (cyI, 40, .inl zm)), (q6, .inl (cyI, 40, .inl zk))] H := hP
  have hD : va_D A [(q0, .inr (9, [.ref q1, .ref q2, .int svc, .ref q3, .int tl, .int (0 : Int32), .int mm, .int mr, .ref q4, .int ati, .int ors, .ref q5, .ref q6])), (q1, .inl (cyI, 246, .inl zs)), (q2, .inl (cyI, 984, .inl zv)), (q3, .inl (cyI, 80, .inl zt)), (q4, .inl (cyI, 5, .inl zp)), (q5, .inl (cyI, 40, .inl zm)), (q6, .inl (cyI, 40, .inl zk))] := hD
  refine lv_iload_n hx hb dX9_fillTable_5 rfl (lv_at hl 1 rfl) ?_
  refine lv_iconst (v := 0) hx hb dX9_fillTable_6 (by decide) ?_
  refine lv_iconst (v := 3) hx hb dX9_fillTable_7 (by decide) ?_
  refine vp_callSi (W.runS (As := [.int ta, .int (0 : Int32), .int (3 : Int32)]) (rest := []) ⟨hx, hb, hml, hown, hts⟩ (c_X9_in l dC dI cyI ta (0 : Int32) (3 : Int32)) (va_cwS 3 hts (gBS b_182 b_183 b_5 b_184) rfl rfl rfl (by decide +kernel) ⟨Nat.le_of_ble_eq_true rfl, Nat.le_of_ble_eq_true rfl⟩) (pre_s eM_ok he hS (hP.sub (ws' := []) [] rfl) (hK.sub (tys' := []) [] rfl)) rfl rfl hl.1 rfl (lv_room (Nat.le_of_ble_eq_true rfl)) dX9_fillTable_8 ⟨Nat.zero_le _, Nat.zero_le _⟩) (fun r_1 hr_1 => ?_)
  obtain ⟨hr_1, hbr_1⟩ := hr_1
  have hE := hE.trans (spLet_eq hr_1)
  refine lv_if_ne (tgt := 20) hx hb dX9_fillTable_11 (by decide) (fun c_2 => ?_) (fun c_2 => ?_)
  ·
    have hE := hE.trans (if_neg c_2)
    have ht := in_n (n := 3) (by decide) hr_1 (by assumption)
    have ht2 : ta.toNatClampNeg < 4 := by have := ht.2; omega
    refine lv_iload_n hx hb dX9_fillTable_20 rfl (lv_at hl 2 rfl) ?_
    refine lv_iconst (v := 0) hx hb dX9_fillTable_21 (by decide) ?_
    refine lv_ldc (v := 1000000) hx hb hown w_1 dX9_fillTable_22 ?_
    refine vp_callSi (W.runS (As := [.int mo, .int (0 : Int32), .int (1000000 : Int32)]) (rest := []) ⟨hx, hb, hml, hown, hts⟩ (c_X9_in l dC dI cyI mo (0 : Int32) (1000000 : Int32)) (va_cwS 3 hts (gBS b_182 b_183 b_5 b_184) rfl rfl rfl (by decide +kernel) ⟨Nat.le_of_ble_eq_true rfl, Nat.le_of_ble_eq_true rfl⟩) (pre_s eM_ok he hS (hP.sub (ws' := []) [] rfl) (hK.sub (tys' := []) [] rfl)) rfl rfl hl.1 rfl (lv_room (Nat.le_of_ble_eq_true rfl)) dX9_fillTable_24 ⟨Nat.zero_le _, Nat.zero_le _⟩) (fun r_3 hr_3 => ?_)
    obtain ⟨hr_3, hbr_3⟩ := hr_3
    have hE := hE.trans (spLet_eq hr_3)
    refine lv_if_ne (tgt := 36) hx hb dX9_fillTable_27 (by decide) (fun c_4 => ?_) (fun c_4 => ?_)
    ·
      have hE := hE.trans (if_neg c_4)
      refine lv_aload_n hx hb dX9_fillTable_36 rfl (lv_at hl 0 rfl) ?_
      refine mj_v (wr := []) (va_runV (As := []) (rest := []) ⟨hx, hb, hml, hown, hts⟩ (c_X9_keep l dC dI cyI H.size q0 q1 q2 q3 q4 q5 q6 svc tl (0 : Int32) mm mr ati ors zs zv zt zp zm zk hsv hs4) (cwV 0 hts (gBV b_193 b_194 b_195 b_5 b_196) rfl rfl rfl (by decide +kernel) ⟨Nat.le_of_ble_eq_true rfl, Nat.le_of_ble_eq_true rfl⟩) (prm_v eM_ok he hS hP hD hK (va_free (wc := [(q0, .inr (9, [.ref q1, .ref q2, .int svc, .ref q3, .int tl, .int (0 : Int32), .int mm, .int mr, .ref q4, .int ati, .int ors, .ref q5, .ref q6])), (q1, .inl (cyI, 246, .inl zs)), (q2, .inl (cyI, 984, .inl zv)), (q3, .inl (cyI, 80, .inl zt)), (q4, .inl (cyI, 5, .inl zp)), (q5, .inl (cyI, 40, .inl zm)), (q6, .inl (cyI, 40, .inl zk))]) hD hS hA [0, 1, 2, 3, 4, 5, 6] rfl) 0 rfl rfl rfl) rfl rfl hl.1 rfl (lv_room (Nat.le_of_ble_eq_true rfl)) dX9_fillTable_37 ⟨Nat.le_of_ble_eq_true rfl, Nat.le_of_ble_eq_true rfl⟩) hP hD hS hA [0, 1, 2, 3, 4, 5, 6] [] rfl rfl (by decide) (by decide) (fun u_5 H locs hw hP hD hS => ?_)
      have hu_5 := hw
      have hE := hE.trans (spLet_eq hu_5)
      have hP : va_P (dC, dI) vwCl [(q0, .inr (9, [.ref q1, .ref q2, .int (u_5.1), .ref q3, .int tl, .int (0 : Int32), .int mm, .int mr, .ref q4, .int ati, .int ors, .ref q5, .ref q6])), (q1, .inl (cyI, 246, .inl zs)), (q2, .inl (cyI, 984, .inl (u_5.2))), (q3, .inl (cyI, 80, .inl zt)), (q4, .inl (cyI, 5, .inl zp)), (q5, .inl (cyI, 40, .inl zm)), (q6, .inl (cyI, 40, .inl zk))] H := hP
      have hD : va_D A [(q0, .inr (9, [.ref q1, .ref q2, .int (u_5.1), .ref q3, .int tl, .int (0 : Int32), .int mm, .int mr, .ref q4, .int ati, .int ors, .ref q5, .ref q6])), (q1, .inl (cyI, 246, .inl zs)), (q2, .inl (cyI, 984, .inl (u_5.2))), (q3, .inl (cyI, 80, .inl zt)), (q4, .inl (cyI, 5, .inl zp)), (q5, .inl (cyI, 40, .inl zm)), (q6, .inl (cyI, 40, .inl zk))] := hD
      refine lv_iconst (v := 0) hx hb dX9_fillTable_40 (by decide) ?_
      refine lv_istore_n (lv' := [(3, .int (0 : Int32)), (0, .ref q0), (1, .int ta), (2, .int mo)]) hx hb dX9_fillTable_41 rfl hl (by decide) rfl (fun ls hl => ?_)
      have L42 : ∀ (n42 : Nat) (k3_42 : Nat) (w1_a_42 : Nat → Int32) (hi : k3_42 ≤ 24 ∧ 24 < k3_42 + n42) (H : Heap) (locs : List Loc) (hP : va_P (dC, dI) vwCl [(q0, .inr (9, [.ref q1, .ref q2, .int (u_5.1), .ref q3, .int tl, .int (0 : Int32), .int mm, .int mr, .ref q4, .int ati, .int ors, .ref q5, .ref q6])), (q1, .inl (cyI, 246, .inl w1_a_42)), (q2, .inl (cyI, 984, .inl (u_5.2))), (q3, .inl (cyI, 80, .inl zt)), (q4, .inl (cyI, 5, .inl zp)), (q5, .inl (cyI, 40, .inl zm)), (q6, .inl (cyI, 40, .inl zk))] H) (hD : va_D A [(q0, .inr (9, [.ref q1, .ref q2, .int (u_5.1), .ref q3, .int tl, .int (0 : Int32), .int mm, .int mr, .ref q4, .int ati, .int ors, .ref q5, .ref q6])), (q1, .inl (cyI, 246, .inl w1_a_42)), (q2, .inl (cyI, 984, .inl (u_5.2))), (q3, .inl (cyI, 80, .inl zt)), (q4, .inl (cyI, 5, .inl zp)), (q5, .inl (cyI, 40, .inl zm)), (q6, .inl (cyI, 40, .inl zk))]) (hS : va_S A s.heap H locs) (ls : Array Slot) (hl : lv_has ls 5 [(0, .ref q0), (1, .int ta), (2, .int mo), (3, .int (nI k3_42))]) (hE : (m_fillTable svc zs zv ta mo) = spIter (fun _ _ => default) (m_fillTable_b42 ta mo u_5) n42 k3_42 w1_a_42), W p l e (headSpec wqX9_fillTable ({ frames := 1, cells := 0, slots := 0, locals := 23 } : Room)).room s m ([.ref q0, .int ta, .int mo] : List Value).toArray below meth c H locs 0 0 (MQ below (va_Qi (fun (r : Int32) (u : Int32 × Int32 × Int32 × (Nat → Int32) × (Nat → Int32)) => u = (m_fillTable svc zs zv ta mo) ∧ r = u.1) (fun (u : Int32 × Int32 × Int32 × (Nat → Int32) × (Nat → Int32)) t => va_P (dC, dI) vwCl [(q0, .inr (9, [.ref q1, .ref q2, .int (u.2.1), .ref q3, .int tl, .int (u.2.2.1), .int mm, .int mr, .ref q4, .int ati, .int ors, .ref q5, .ref q6])), (q1, .inl (cyI, 246, .inl (u.2.2.2.1))), (q2, .inl (cyI, 984, .inl (u.2.2.2.2))), (q3, .inl (cyI, 80, .inl zt)), (q4, .inl (cyI, 5, .inl zp)), (q5, .inl (cyI, 40, .inl zm)), (q6, .inl (cyI, 40, .inl zk))] t.heap ∧ va_D A [(q0, .inr (9, [.ref q1, .ref q2, .int (u.2.1), .ref q3, .int tl, .int (u.2.2.1), .int mm, .int mr, .ref q4, .int ati, .int ors, .ref q5, .ref q6])), (q1, .inl (cyI, 246, .inl (u.2.2.2.1))), (q2, .inl (cyI, 984, .inl (u.2.2.2.2))), (q3, .inl (cyI, 80, .inl zt)), (q4, .inl (cyI, 5, .inl zp)), (q5, .inl (cyI, 40, .inl zm)), (q6, .inl (cyI, 40, .inl zk))]) A) ([.ref q0, .int ta, .int mo] : List Value).toArray s 0 0 A) (F0 m 42 ls []) := by
        intro n42
        induction n42 with
        | zero =>
          intro k3_42 w1_a_42 hi H locs hP hD hS ls hl hE
          exact absurd hi (by omega)
        | succ n42 ih42 =>
          intro k3_42 w1_a_42 hi H locs hP hD hS ls hl hE
          have hE : (m_fillTable svc zs zv ta mo) = m_fillTable_b42 ta mo u_5 (spIter (fun _ _ => default) (m_fillTable_b42 ta mo u_5) n42) k3_42 w1_a_42 := hE
          refine lv_iload_n hx hb dX9_fillTable_42 rfl (lv_at hl 3 rfl) ?_
          refine lv_bipush (v := 24) hx hb dX9_fillTable_43 (by decide) ?_
          refine lv_icmp_ge (tgt := 101) hx hb dX9_fillTable_45 (by decide) (fun c_6 => ?_) (fun c_6 => ?_)
          ·
            have c_6 : 24 ≤ k3_42 := by
              have h1 : ((nI k3_42)) = nI k3_42 := rfl
              have h2 : ((24 : Int32)) = nI 24 := rfl
              have h3 : (nI 24 ≤ nI k3_42) := by first | exact c_6 | (rw [← h1, ← h2]; exact c_6)
              exact (nI_leI (by omega) (by omega)).mp h3
            have hE := hE.trans (if_pos c_6)
            refine lv_aload_n hx hb dX9_fillTable_101 rfl (lv_at hl 0 rfl) ?_
            refine lv_iload_n hx hb dX9_fillTable_102 rfl (lv_at hl 1 rfl) ?_
            refine vp_callSi (W.runV (As := [.int ta]) (rest := []) ⟨hx, hb, hml, hown, hts⟩ (c_X9_sumOf_p l dC dI cyI q0 q1 q2 q3 q4 q5 q6 (u_5.1) tl (0 : Int32) mm mr ati ors w1_a_42 (u_5.2) zt zp zm zk ta ht.1 ht2) (cwV 1 hts (gBV b_270 b_271 b_272 b_5 b_273) rfl rfl rfl (by decide +kernel) ⟨Nat.le_of_ble_eq_true rfl, Nat.le_of_ble_eq_true rfl⟩) (pre_v eM_ok he hS hP hK 0 rfl rfl rfl) rfl rfl hl.1 rfl (lv_room (Nat.le_of_ble_eq_true rfl)) dX9_fillTable_103 ⟨Nat.zero_le _, Nat.zero_le _⟩) (fun r_7 hr_7 => ?_)
            have hE := hE.trans (spLet_eq hr_7)
            exact W.iret (v := r_7) hx hb hr (fun t h9 hW => ⟨⟨r_7, ((r_7, (u_5.1), (0 : Int32), w1_a_42, (u_5.2)) : Int32 × Int32 × Int32 × (Nat → Int32) × (Nat → Int32)), rfl, ⟨hE.symm, rfl⟩, by rw [h9]; exact hP, hD⟩, hS.F h9⟩) hS.2.2 dX9_fillTable_106
          ·
            have c_6 : ¬ 24 ≤ k3_42 := by
              have h1 : ((nI k3_42)) = nI k3_42 := rfl
              have h2 : ((24 : Int32)) = nI 24 := rfl
              have h3 : ¬ (nI 24 ≤ nI k3_42) := by first | exact c_6 | (rw [← h1, ← h2]; exact c_6)
              exact fun h => h3 ((nI_leI (by omega) (by omega)).mpr h)
            have hE := hE.trans (if_neg c_6)
            refine lv_ldc (v := 100000) hx hb hown w_2 dX9_fillTable_48 ?_
            refine lv_sipush (v := 1000) hx hb dX9_fillTable_50 (by decide) ?_
            refine lv_iload_n hx hb dX9_fillTable_53 rfl (lv_at hl 2 rfl) ?_
            refine lv_imul hx hb dX9_fillTable_54 ?_
            refine lv_iload_n hx hb dX9_fillTable_55 rfl (lv_at hl 3 rfl) ?_
            refine lv_bipush (v := 6) hx hb dX9_fillTable_56 (by decide) ?_
            refine lv_irem hx hb dX9_fillTable_58 (by decide) ?_
            refine vp_callSi (W.runS (As := [.int ((nI k3_42) - (nI k3_42) / (6 : Int32) * (6 : Int32))]) (rest := [.int ((1000 : Int32) * mo), .int (100000 : Int32)]) ⟨hx, hb, hml, hown, hts⟩ (c_X9_columnRadius l dC dI cyI ((nI k3_42) - (nI k3_42) / (6 : Int32) * (6 : Int32))) (va_cwS 1 hts (gBS b_264 b_265 b_5 b_266) rfl rfl rfl (by decide +kernel) ⟨Nat.le_of_ble_eq_true rfl, Nat.le_of_ble_eq_true rfl⟩) (pre_s eM_ok he hS (hP.sub (ws' := []) [] rfl) (hK.sub (tys' := []) [] rfl)) rfl rfl hl.1 rfl (lv_room (Nat.le_of_ble_eq_true rfl)) dX9_fillTable_59 ⟨Nat.zero_le _, Nat.zero_le _⟩) (fun r_8 hr_8 => ?_)
            have hE := hE.trans (spLet_eq hr_8)
            refine lv_idiv hx hb dX9_fillTable_62 (by rw [hr_8]; exact colR0 _) ?_
            refine vp_callSi (W.runS (As := [.int (100000 : Int32), .int (((1000 : Int32) * mo) / r_8)]) (rest := []) ⟨hx, hb, hml, hown, hts⟩ (c_X9_lesser l dC dI cyI (100000 : Int32) (((1000 : Int32) * mo) / r_8)) (va_cwS 2 hts (gBS b_267 b_268 b_5 b_269) rfl rfl rfl (by decide +kernel) ⟨Nat.le_of_ble_eq_true rfl, Nat.le_of_ble_eq_true rfl⟩) (pre_s eM_ok he hS (hP.sub (ws' := []) [] rfl) (hK.sub (tys' := []) [] rfl)) rfl rfl hl.1 rfl (lv_room (Nat.le_of_ble_eq_true rfl)) dX9_fillTable_63 ⟨Nat.zero_le _, Nat.zero_le _⟩) (fun r_9 hr_9 => ?_)
            have hE := hE.trans (spLet_eq hr_9)
            refine lv_istore (lv' := [(4, .int r_9), (0, .ref q0), (1, .int ta), (2, .int mo), (3, .int (nI k3_42))]) hx hb dX9_fillTable_66 hl (by decide) rfl (fun ls hl => ?_)
            refine lv_aload_n hx hb dX9_fillTable_68 rfl (lv_at hl 1 rfl) ?_
            refine va_get (D := (dC, dI)) (ci := 9) (v := .ref q1) (C := RX9) (T := TX9) (N := 13) hx hb hts i_X9 hown hK hP 0 rfl rfl 0 (by decide) w_3 (fun _ h9 => h9) rfl dX9_fillTable_69 ?_
            refine lv_bipush (v := 47) hx hb dX9_fillTable_72 (by decide) ?_
            refine lv_bipush (v := 24) hx hb dX9_fillTable_74 (by decide) ?_
            refine lv_iload_n hx hb dX9_fillTable_76 rfl (lv_at hl 2 rfl) ?_
            refine lv_imul hx hb dX9_fillTable_77 ?_
            refine lv_iadd hx hb dX9_fillTable_78 ?_
            refine lv_topi (fun y_10 ey_10 => ?_)
            obtain rfl : y_10 = nI (47 + (24 * ta.toNatClampNeg)) := ey_10.trans (nadd (rfl : (47 : Int32) = nI 47) (nmul (rfl : (24 : Int32) = nI 24) ht.1))
            refine lv_iload_n hx hb dX9_fillTable_79 rfl (lv_at hl 4 rfl) ?_
            refine lv_iadd hx hb dX9_fillTable_80 ?_
            refine lv_topi (fun y_11 ey_11 => ?_)
            obtain rfl : y_11 = nI ((47 + (24 * ta.toNatClampNeg)) + k3_42) := ey_11.trans (nadd (rfl : (nI (47 + (24 * ta.toNatClampNeg))) = nI (47 + (24 * ta.toNatClampNeg))) (rfl : (nI k3_42) = nI k3_42))
            refine lv_iload hx hb dX9_fillTable_81 (lv_at hl 0 rfl) ?_
            refine lv_bipush (v := 10) hx hb dX9_fillTable_83 (by decide) ?_
            refine lv_iload_n hx hb dX9_fillTable_85 rfl (lv_at hl 4 rfl) ?_
            refine lv_bipush (v := 6) hx hb dX9_fillTable_86 (by decide) ?_
            refine lv_idiv hx hb dX9_fillTable_88 (by decide) ?_
            refine lv_isub hx hb dX9_fillTable_89 ?_
            refine lv_imul hx hb dX9_fillTable_90 ?_
            refine lv_bipush (v := 10) hx hb dX9_fillTable_91 (by decide) ?_
            refine lv_idiv hx hb dX9_fillTable_93 (by decide) ?_
            refine lv_topi (fun x_12 ex_12 => ?_)
            have hE := hE.trans (spLet_eq ex_12)
            refine ra_st hx hb hK hP hD hS 1 0 rfl rfl (j := ((47 + (24 * ta.toNatClampNeg)) + k3_42)) (rfl : (nI ((47 + (24 * ta.toNatClampNeg)) + k3_42)) = nI ((47 + (24 * ta.toNatClampNeg)) + k3_42)) (by omega) (by omega) dX9_fillTable_94 (fun H locs hP hD hS => ?_)
            have hP : va_P (dC, dI) vwCl [(q0, .inr (9, [.ref q1, .ref q2, .int (u_5.1), .ref q3, .int tl, .int (0 : Int32), .int mm, .int mr, .ref q4, .int ati, .int ors, .ref q5, .ref q6])), (q1, .inl (cyI, 246, .inl (upd w1_a_42 ((47 + (24 * ta.toNatClampNeg)) + k3_42) x_12))), (q2, .inl (cyI, 984, .inl (u_5.2))), (q3, .inl (cyI, 80, .inl zt)), (q4, .inl (cyI, 5, .inl zp)), (q5, .inl (cyI, 40, .inl zm)), (q6, .inl (cyI, 40, .inl zk))] H := hP
            have hD : va_D A [(q0, .inr (9, [.ref q1, .ref q2, .int (u_5.1), .ref q3, .int tl, .int (0 : Int32), .int mm, .int mr, .ref q4, .int ati, .int ors, .ref q5, .ref q6])), (q1, .inl (cyI, 246, .inl (upd w1_a_42 ((47 + (24 * ta.toNatClampNeg)) + k3_42) x_12))), (q2, .inl (cyI, 984, .inl (u_5.2))), (q3, .inl (cyI, 80, .inl zt)), (q4, .inl (cyI, 5, .inl zp)), (q5, .inl (cyI, 40, .inl zm)), (q6, .inl (cyI, 40, .inl zk))] := hD
            obtain ⟨f_13, ef_13⟩ : ∃ y : Nat → Int32, y = upd w1_a_42 ((47 + (24 * ta.toNatClampNeg)) + k3_42) x_12 := ⟨_, rfl⟩
            rw [← ef_13] at hP hD
            have hE := hE.trans (spLet_eq ef_13)
            refine lv_iinc (v := (nI (k3_42 + 1))) (lv' := [(3, .int (nI (k3_42 + 1))), (4, .int r_9), (0, .ref q0), (1, .int ta), (2, .int mo)]) hx hb dX9_fillTable_95 hl (k := 4) rfl (show _ from (congrArg (fun z => z + Int32.ofInt 1) (rfl)).trans (ninc _ 1)) (by decide) rfl (fun ls hl => ?_)
            refine lv_goto (tgt := 42) hx hb dX9_fillTable_98 (by decide) ?_
            exact ih42 (k3_42 + 1) f_13 (by omega) _ _ hP hD hS ls (lv_sub hl [2, 3, 4, 0] rfl) hE
      exact L42 25 0 zs (by omega) _ _ hP hD hS ls (lv_sub hl [1, 2, 3, 0] rfl) hE
    ·
      have hE := hE.trans (if_pos c_4)
      refine lv_aload_n hx hb dX9_fillTable_30 rfl (lv_at hl 0 rfl) ?_
      refine lv_iconst (v := 2) hx hb dX9_fillTable_31 (by decide) ?_
      refine mj_i (wr := []) (va_runV (As := [.int (2 : Int32)]) (rest := []) ⟨hx, hb, hml, hown, hts⟩ (c_X9_fails l dC dI cyI H.size q0 q1 q2 q3 q4 q5 q6 svc tl (0 : Int32) mm mr ati ors zs zv zt zp zm zk (2 : Int32)) (cwV 1 hts (gBV b_185 b_186 b_187 b_5 b_188) rfl rfl rfl (by decide +kernel) ⟨Nat.le_of_ble_eq_true rfl, Nat.le_of_ble_eq_true rfl⟩) (prm_v eM_ok he hS hP hD hK (va_free (wc := [(q0, .inr (9, [.ref q1, .ref q2, .int svc, .ref q3, .int tl, .int (0 : Int32), .int mm, .int mr, .ref q4, .int ati, .int ors, .ref q5, .ref q6])), (q1, .inl (cyI, 246, .inl zs)), (q2, .inl (cyI, 984, .inl zv)), (q3, .inl (cyI, 80, .inl zt)), (q4, .inl (cyI, 5, .inl zp)), (q5, .inl (cyI, 40, .inl zm)), (q6, .inl (cyI, 40, .inl zk))]) hD hS hA [0, 1, 2, 3, 4, 5, 6] rfl) 0 rfl rfl rfl) rfl rfl hl.1 rfl (lv_room (Nat.le_of_ble_eq_true rfl)) dX9_fillTable_32 ⟨Nat.le_of_ble_eq_true rfl, Nat.le_of_ble_eq_true rfl⟩) hP hD hS hA [0, 1, 2, 3, 4, 5, 6] [] rfl rfl (by decide) (by decide) (fun r_15 u_14 H locs hw hP hD hS => ?_)
      obtain ⟨hu_14, rfl⟩ := hw
      have hE := hE.trans (spLet_eq hu_14)
      have hP : va_P (dC, dI) vwCl [(q0, .inr (9, [.ref q1, .ref q2, .int svc, .ref q3, .int tl, .int (u_14.2), .int mm, .int mr, .ref q4, .int ati, .int ors, .ref q5, .ref q6])), (q1, .inl (cyI, 246, .inl zs)), (q2, .inl (cyI, 984, .inl zv)), (q3, .inl (cyI, 80, .inl zt)), (q4, .inl (cyI, 5, .inl zp)), (q5, .inl (cyI, 40, .inl zm)), (q6, .inl (cyI, 40, .inl zk))] H := hP
      have hD : va_D A [(q0, .inr (9, [.ref q1, .ref q2, .int svc, .ref q3, .int tl, .int (u_14.2), .int mm, .int mr, .ref q4, .int ati, .int ors, .ref q5, .ref q6])), (q1, .inl (cyI, 246, .inl zs)), (q2, .inl (cyI, 984, .inl zv)), (q3, .inl (cyI, 80, .inl zt)), (q4, .inl (cyI, 5, .inl zp)), (q5, .inl (cyI, 40, .inl zm)), (q6, .inl (cyI, 40, .inl zk))] := hD
      exact W.iret (v := (u_14.1)) hx hb hr (fun t h9 hW => ⟨⟨(u_14.1), (((u_14.1), svc, (u_14.2), zs, zv) : Int32 × Int32 × Int32 × (Nat → Int32) × (Nat → Int32)), rfl, ⟨hE.symm, rfl⟩, by rw [h9]; exact hP, hD⟩, hS.F h9⟩) hS.2.2 dX9_fillTable_35
  ·
    have hE := hE.trans (if_pos c_2)
    refine lv_aload_n hx hb dX9_fillTable_14 rfl (lv_at hl 0 rfl) ?_
    refine lv_iconst (v := 1) hx hb dX9_fillTable_15 (by decide) ?_
    refine mj_i (wr := []) (va_runV (As := [.int (1 : Int32)]) (rest := []) ⟨hx, hb, hml, hown, hts⟩ (c_X9_fails l dC dI cyI H.size q0 q1 q2 q3 q4 q5 q6 svc tl (0 : Int32) mm mr ati ors zs zv zt zp zm zk (1 : Int32)) (cwV 1 hts (gBV b_185 b_186 b_187 b_5 b_188) rfl rfl rfl (by decide +kernel) ⟨Nat.le_of_ble_eq_true rfl, Nat.le_of_ble_eq_true rfl⟩) (prm_v eM_ok he hS hP hD hK (va_free (wc := [(q0, .inr (9, [.ref q1, .ref q2, .int svc, .ref q3, .int tl, .int (0 : Int32), .int mm, .int mr, .ref q4, .int ati, .int ors, .ref q5, .ref q6])), (q1, .inl (cyI, 246, .inl zs)), (q2, .inl (cyI, 984, .inl zv)), (q3, .inl (cyI, 80, .inl zt)), (q4, .inl (cyI, 5, .inl zp)), (q5, .inl (cyI, 40, .inl zm)), (q6, .inl (cyI, 40, .inl zk))]) hD hS hA [0, 1, 2, 3, 4, 5, 6] rfl) 0 rfl rfl rfl) rfl rfl hl.1 rfl (lv_room (Nat.le_of_ble_eq_true rfl)) dX9_fillTable_16 ⟨Nat.le_of_ble_eq_true rfl, Nat.le_of_ble_eq_true rfl⟩) hP hD hS hA [0, 1, 2, 3, 4, 5, 6] [] rfl rfl (by decide) (by decide) (fun r_17 u_16 H locs hw hP hD hS => ?_)
    obtain ⟨hu_16, rfl⟩ := hw
    have hE := hE.trans (spLet_eq hu_16)
    have hP : va_P (dC, dI) vwCl [(q0, .inr (9, [.ref q1, .ref q2, .int svc, .ref q3, .int tl, .int (u_16.2), .int mm, .int mr, .ref q4, .int ati, .int ors, .ref q5, .ref q6])), (q1, .inl (cyI, 246, .inl zs)), (q2, .inl (cyI, 984, .inl zv)), (q3, .inl (cyI, 80, .inl zt)), (q4, .inl (cyI, 5, .inl zp)), (q5, .inl (cyI, 40, .inl zm)), (q6, .inl (cyI, 40, .inl zk))] H := hP
    have hD : va_D A [(q0, .inr (9, [.ref q1, .ref q2, .int svc, .ref q3, .int tl, .int (u_16.2), .int mm, .int mr, .ref q4, .int ati, .int ors, .ref q5, .ref q6])), (q1, .inl (cyI, 246, .inl zs)), (q2, .inl (cyI, 984, .inl zv)), (q3, .inl (cyI, 80, .inl zt)), (q4, .inl (cyI, 5, .inl zp)), (q5, .inl (cyI, 40, .inl zm)), (q6, .inl (cyI, 40, .inl zk))] := hD
    exact W.iret (v := (u_16.1)) hx hb hr (fun t h9 hW => ⟨⟨(u_16.1), (((u_16.1), svc, (u_16.2), zs, zv) : Int32 × Int32 × Int32 × (Nat → Int32) × (Nat → Int32)), rfl, ⟨hE.symm, rfl⟩, by rw [h9]; exact hP, hD⟩, hS.F h9⟩) hS.2.2 dX9_fillTable_19

