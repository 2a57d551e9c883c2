abbrev wqL_setOutrigger : List Cond := Cond.codeWith yL_setOutrigger cL_setOutrigger 5 (some .int) [(0, 10, 13, 13), (0, 10, 17, 15)] :: wB
set_option maxHeartbeats 1000000 in
set_option maxRecDepth 100000 in
theorem HL_setOutrigger (l : Launch) (dC : Nat → ClassId) (dI : Nat → Nat → Nat) (cyI cyS cyJ : ClassId) (qa qo : Nat) (fs : List Value) (w1 : CS → va_W) (c0 : CS) (hq : (w1 c0)[0]? = some (qa, .inr (8, fs))) (P0 : Int32 → CS → Prop) (XE : String → Prop) (of : Nat → Int64) (p0 : Int32) (p1 : Int32)
    (hM : ∀ sz, vx_Met l yX8_setOutrigger wqX8_setOutrigger ({ frames := 7, cells := 17, slots := 272, locals := 131 } : Room) (va_Pc [.ref qa, .int p0, .int p1] (pC (dC, dI) (w1 c0) [(cyI, .int), (cyS, .object RX5)] eX sz)) (va_Qi P0 (fun (u : CS) t => va_P (dC, dI) vwCl (w1 u) t.heap ∧ va_D (va_A (w1 c0) sz) (w1 u)) (va_A (w1 c0) sz)) (vx_X (fun _ : Unit => True) (fun E _ _ => XE E) aF) 17 272 (va_A (w1 c0) sz))
    (hX : ∀ E, XE E → E = nIO ∨ E = nIA) (sz : Nat) :
    vx_Met l yL_setOutrigger wqL_setOutrigger ({ frames := 8, cells := 17, slots := 272, locals := 153 } : Room) (va_Pc [.ref qa, .int p0, .int p1, .ref qo] (pC (dC, dI) ((qo, .inl (cyJ, 1, .inr (.inl of))) :: w1 c0) [(cyI, .int), (cyS, .object RX5), (cyJ, .long)] eX sz)) (va_Qi (fun r (u : CS × (Nat → Int64)) => (r = 0 ∧ ∃ v, P0 v u.1 ∧ u.2 0 = v.toInt64) ∨ (r = 1 ∧ XE nIO ∧ u.1 = c0) ∨ (r = 2 ∧ XE nIA ∧ u.1 = c0)) (fun (u : CS × (Nat → Int64)) t => va_P (dC, dI) vwCl ((qo, .inl (cyJ, 1, .inr (.inl u.2))) :: w1 u.1) t.heap ∧ va_D (va_A ((qo, .inl (cyJ, 1, .inr (.inl of))) :: w1 c0) sz) ((qo, .inl (cyJ, 1, .inr (.inl u.2))) :: w1 u.1)) (va_A ((qo, .inl (cyJ, 1, .inr (.inl of))) :: w1 c0) sz)) (vx_X (fun _ : Unit => False) (fun _ _ _ => True) aF) 17 272 (va_A ((qo, .inl (cyJ, 1, .inr (.inl of))) :: w1 c0) sz) := by
  refine vx_ofWH (cc := cL_setOutrigger) (maxL := 5) (ret := (some .int)) (by decide) rfl ?_
  intro p e s m args below meth c s₁ B9 hml hv
  obtain ⟨rfl, hsz, hP, hK, hD0, he⟩ := hv
  have hx := B9.exec
  have hb := B9.bytes
  have hr := B9.returns
  have hts := atoms_spec (ws := wqL_setOutrigger) B9.pre
  have hown : s.vm.findClass RL = some m.cls := findClass_of_methodNamed B9.named
  have w_0 := hts (Cond.classLink RL 13 "java/lang/IndexOutOfBoundsException") (List.mem_cons_of_mem _ b_103)
  have w_1 := hts (Cond.classLink RL 15 "java/lang/IllegalArgumentException") (List.mem_cons_of_mem _ b_104)
  subst hsz
  have hD := hD0.self (sz := s.heap.size)
  generalize hAe : va_A ((qo, .inl (cyJ, 1, .inr (.inl of))) :: w1 c0) s.heap.size = A at hD he ⊢
  have hA : ∀ q : Nat, s.heap.size ≤ q → A q := fun q h => by rw [← hAe]; exact Or.inr h
  have hS : va_S A s.heap s.heap [] := va_S.rf
  have hl := lv_entry ([.ref qa, .int p0, .int p1, .ref qo] : List Value) (n := 5) (Nat.le_of_ble_eq_true rfl)
  rw [lg_entry_eq]
  generalize (lg_sl ([.ref qa, .int p0, .int p1, .ref qo] : List Value) ++ List.replicate (5 - (lg_sl ([.ref qa, .int p0, .int p1, .ref qo] : List Value)).length) Slot.unset).toArray = ls at hl ⊢
  have hl : lv_has ls 5 [(0, .ref qa), (1, .int p0), (2, .int p1), (3, .ref qo)] := hl
  refine lv_aload_n hx hb dL_setOutrigger_0 rfl (lv_at hl 3 rfl) ?_
  refine lv_iconst (v := 0) hx hb dL_setOutrigger_1 (by decide) ?_
  refine lv_aload_n hx hb dL_setOutrigger_2 rfl (lv_at hl 0 rfl) ?_
  refine lv_iload_n hx hb dL_setOutrigger_3 rfl (lv_at hl 1 rfl) ?_
  refine lv_iload_n hx hb dL_setOutrigger_4 rfl (lv_at hl 2 rfl) ?_
  have hPg : va_P (dC, dI) vwCl (w1 c0) s.heap := xt_P.mpr fun q hq => xt_P.mp hP q (List.mem_cons_of_mem _ hq)
  have hDg : va_D A (w1 c0) := xt_D.mpr ⟨(List.nodup_cons.mp (by rw [← List.map_cons (f := fun q : Nat × va_E => q.1)]; exact (xt_D.mp hD).1)).2, fun q hq => (xt_D.mp hD).2 q (List.mem_cons_of_mem _ hq)⟩
  refine hx_call (XE := XE) (vx_runV (As := [.int p0, .int p1]) (rest := [.int (0 : Int32), .ref qo]) ⟨hx, hb, hml, hown, hts⟩ (hM s.heap.size) (cwV 2 hts (gBV b_105 b_106 b_107 b_2 b_108) rfl rfl rfl (by decide +kernel) ⟨Nat.le_of_ble_eq_true rfl, Nat.le_of_ble_eq_true rfl⟩) (prm_v eX_ok he hS hPg hDg (hK.sub (tys' := [(cyI, .int), (cyS, .object RX5)]) [0, 1] rfl) (fun q hq => by rcases hq with ⟨k, e9, h9⟩ | h9; exact (xt_D.mp hD).2 (q, e9) (List.mem_cons_of_mem _ (List.mem_of_getElem? h9)); exact hA q h9) 0 hq rfl rfl) rfl rfl hl.1 rfl (lv_room (Nat.le_of_ble_eq_true rfl)) dL_setOutrigger_5 ⟨Nat.le_of_ble_eq_true rfl, Nat.le_of_ble_eq_true rfl⟩) hP hD hS hA (fun E ce q9 H locs hXE hP hS hce hcv hcl => ?_) (fun r u H locs hw hP hD hS => ?_)
  · have htab : c.exceptionTable.toList = tableOf [(0, 10, 13, 13), (0, 10, 17, 15)] := vx_table (x := yL_setOutrigger) B9 (hts _ List.mem_cons_self)
    rcases hX E hXE with rfl | rfl
    · refine vx_catch (name := nIO) hown ((tableOf [(0, 10, 13, 13), (0, 10, 17, 15)]).take 0) ((tableOf [(0, 10, 13, 13), (0, 10, 17, 15)]).get ⟨0, by decide⟩) ((tableOf [(0, 10, 13, 13), (0, 10, 17, 15)]).drop 1) (by rw [htab]; rfl) (fun z hz => by cases hz) (by decide) (by decide) w_0 (va_Nw.use rfl (he.exc.2.1 _ (by decide))) hce hcv hcl ?_
      refine lv_astore (lv' := [(4, .ref q9), (0, .ref qa), (1, .int p0), (2, .int p1), (3, .ref qo)]) hx hb dL_setOutrigger_13 hl (by decide) rfl (fun ls hl => ?_)
      refine lv_iconst (v := 1) hx hb dL_setOutrigger_15 (by decide) ?_
      refine vx_ret ?_
      exact W.iret (v := (1 : Int32)) hx hb hr (fun t h9 hW => ⟨⟨1, ((c0, of) : CS × (Nat → Int64)), rfl, Or.inr (Or.inl ⟨rfl, hXE, rfl⟩), by rw [h9]; exact hP, hD⟩, hS.F h9⟩) hS.2.2 dL_setOutrigger_16
    · refine vx_catch (name := nIA) hown ((tableOf [(0, 10, 13, 13), (0, 10, 17, 15)]).take 1) ((tableOf [(0, 10, 13, 13), (0, 10, 17, 15)]).get ⟨1, by decide⟩) ((tableOf [(0, 10, 13, 13), (0, 10, 17, 15)]).drop 2) (by rw [htab]; rfl) (fun z hz => Or.inr (by rcases List.mem_singleton.mp hz with rfl; exact ⟨(by decide : (13 : Nat) ≠ 0), nIO, w_0, he.exc.2.2.1⟩)) (by decide) (by decide) w_1 (va_Nw.use rfl (he.exc.2.1 _ (by decide))) hce hcv hcl ?_
      refine lv_astore (lv' := [(4, .ref q9), (0, .ref qa), (1, .int p0), (2, .int p1), (3, .ref qo)]) hx hb dL_setOutrigger_17 hl (by decide) rfl (fun ls hl => ?_)
      refine lv_iconst (v := 2) hx hb dL_setOutrigger_19 (by decide) ?_
      refine vx_ret ?_
      exact W.iret (v := (2 : Int32)) hx hb hr (fun t h9 hW => ⟨⟨2, ((c0, of) : CS × (Nat → Int64)), rfl, Or.inr (Or.inr ⟨rfl, hXE, rfl⟩), by rw [h9]; exact hP, hD⟩, hS.F h9⟩) hS.2.2 dL_setOutrigger_20
  · refine lv_i2l hx hb dL_setOutrigger_8 rfl ?_
    refine va_last hx hb hK hP hD hS 0 2 rfl rfl (vp_in_nI (n := 0) (by decide) (by decide)) dL_setOutrigger_9 (fun H locs hP hD hS => ?_)
    refine lv_goto (tgt := 21) hx hb dL_setOutrigger_10 (by decide) ?_
    refine lv_iconst (v := 0) hx hb dL_setOutrigger_21 (by decide) ?_
    refine vx_ret ?_
    exact W.iret (v := (0 : Int32)) hx hb hr (fun t h9 hW => ⟨⟨0, ((u, vp_updL of (0 : Int32).toNatClampNeg r.toInt64) : CS × (Nat → Int64)), rfl, Or.inl ⟨rfl, r, hw, rfl⟩, by rw [h9]; exact hP, hD⟩, hS.F h9⟩) hS.2.2 dL_setOutrigger_22
abbrev wqL_setCapacity : List Cond := Cond.codeWith yL_setCapacity cL_setCapacity 7 (some .int) [(0, 14, 17, 13), (0, 14, 21, 15)] :: wB
set_option maxHeartbeats 1000000 in
set_option maxRecDepth 100000 in
theorem HL_setCapacity (l : Launch) (dC : Nat → ClassId) (dI : Nat → Nat → Nat) (cyI cyS cyJ : ClassId) (qa qo : Nat) (fs : List Value) (w1 : CS → va_W) (c0 : CS) (hq : (w1 c0)[0]? = some (qa, .inr (8, fs))) (P0 : Int32 → CS → Prop) (XE : String → Prop) (of : Nat → Int64) (p0 : Int32) (p1 : Int32) (p2 : Int32) (p3 : Int32)
    (hM : ∀ sz, vx_Met l yX8_setCapacity wqX8_setCapacity ({ frames := 8, cells := 19, slots := 284, locals := 131 } : Room) (va_Pc [.ref qa, .int p0, .int p1, .int p2, .int p3] (pC (dC, dI) (w1 c0) [(cyI, .int), (cyS, .object RX5)] eX sz)) (va_Qi P0 (fun (u : CS) t => va_P (dC, dI) vwCl (w1 u) t.heap ∧ va_D (va_A (w1 c0) sz) (w1 u)) (va_A (w1 c0) sz)) (vx_X (fun _ : Unit => True) (fun E _ _ => XE E) aF) 19 284 (va_A (w1 c0) sz))
    (hX : ∀ E, XE E → E = nIO ∨ E = nIA) (sz : Nat) :
    vx_Met l yL_setCapacity wqL_setCapacity ({ frames := 9, cells := 19, slots := 284, locals := 156 } : Room) (va_Pc [.ref qa, .int p0, .int p1, .int p2, .int p3, .ref qo] (pC (dC, dI) ((qo, .inl (cyJ, 1, .inr (.inl of))) :: w1 c0) [(cyI, .int), (cyS, .object RX5), (cyJ, .long)] eX sz)) (va_Qi (fun r (u : CS × (Nat → Int64)) => (r = 0 ∧ ∃ v, P0 v u.1 ∧ u.2 0 = v.toInt64) ∨ (r = 1 ∧ XE nIO ∧ u.1 = c0) ∨ (r = 2 ∧ XE nIA ∧ u.1 = c0)) (fun (u : CS × (Nat → Int64)) t => va_P (dC, dI) vwCl ((qo, .inl (cyJ, 1, .inr (.inl u.2))) :: w1 u.1) t.heap ∧ va_D (va_A ((qo, .inl (cyJ, 1, .inr (.inl of))) :: w1 c0) sz) ((qo, .inl (cyJ, 1, .inr (.inl u.2))) :: w1 u.1)) (va_A ((qo, .inl (cyJ, 1, .inr (.inl of))) :: w1 c0) sz)) (vx_X (fun _ : Unit => False) (fun _ _ _ => True) aF) 19 284 (va_A ((qo, .inl (cyJ, 1, .inr (.inl of))) :: w1 c0) sz) := by
  refine vx_ofWH (cc := cL_setCapacity) (maxL := 7) (ret := (some .int)) (by decide) rfl ?_
  intro p e s m args below meth c s₁ B9 hml hv
  obtain ⟨rfl, hsz, hP, hK, hD0, he⟩ := hv
  have hx := B9.exec
  have hb := B9.bytes
  have hr := B9.returns
  have hts := atoms_spec (ws := wqL_setCapacity) B9.pre
  have hown : s.vm.findClass RL = some m.cls := findClass_of_methodNamed B9.named
  have w_0 := hts (Cond.classLink RL 13 "java/lang/IndexOutOfBoundsException") (List.mem_cons_of_mem _ b_103)
  have w_1 := hts (Cond.classLink RL 15 "java/lang/IllegalArgumentException") (List.mem_cons_of_mem _ b_104)
  subst hsz
  have hD := hD0.self (sz := s.heap.size)
  generalize hAe : va_A ((qo, .inl (cyJ, 1, .inr (.inl of))) :: w1 c0) s.heap.size = A at hD he ⊢
  have hA : ∀ q : Nat, s.heap.size ≤ q → A q := fun q h => by rw [← hAe]; exact Or.inr h
  have hS : va_S A s.heap s.heap [] := va_S.rf
  have hl := lv_entry ([.ref qa, .int p0, .int p1, .int p2, .int p3, .ref qo] : List Value) (n := 7) (Nat.le_of_ble_eq_true rfl)
  rw [lg_entry_eq]
  generalize (lg_sl ([.ref qa, .int p0, .int p1, .int p2, .int p3, .ref qo] : List Value) ++ List.replicate (7 - (lg_sl ([.ref qa, .int p0, .int p1, .int p2, .int p3, .ref qo] : List Value)).length) Slot.unset).toArray = ls at hl ⊢
  have hl : lv_has ls 7 [(0, .ref qa), (1, .int p0), (2, .int p1), (3, .int p2), (4, .int p3), (5, .ref qo)] := hl
  refine lv_aload hx hb dL_setCapacity_0 (lv_at hl 5 rfl) ?_
  refine lv_iconst (v := 0) hx hb dL_setCapacity_2 (by decide) ?_
  refine lv_aload_n hx hb dL_setCapacity_3 rfl (lv_at hl 0 rfl) ?_
  refine lv_iload_n hx hb dL_setCapacity_4 rfl (lv_at hl 1 rfl) ?_
  refine lv_iload_n hx hb dL_setCapacity_5 rfl (lv_at hl 2 rfl) ?_
  refine lv_iload_n hx hb dL_setCapacity_6 rfl (lv_at hl 3 rfl) ?_
  refine lv_iload hx hb dL_setCapacity_7 (lv_at hl 4 rfl) ?_
  have hPg : va_P (dC, dI) vwCl (w1 c0) s.heap := xt_P.mpr fun q hq => xt_P.mp hP q (List.mem_cons_of_mem _ hq)
  have hDg : va_D A (w1 c0) := xt_D.mpr ⟨(List.nodup_cons.mp (by rw [← List.map_cons (f := fun q : Nat × va_E => q.1)]; exact (xt_D.mp hD).1)).2, fun q hq => (xt_D.mp hD).2 q (List.mem_cons_of_mem _ hq)⟩
  refine hx_call (XE := XE) (vx_runV (As := [.int p0, .int p1, .int p2, .int p3]) (rest := [.int (0 : Int32), .ref qo]) ⟨hx, hb, hml, hown, hts⟩ (hM s.heap.size) (cwV 4 hts (gBV b_214 b_215 b_216 b_2 b_217) rfl rfl rfl (by decide +kernel) ⟨Nat.le_of_ble_eq_true rfl, Nat.le_of_ble_eq_true rfl⟩) (prm_v eX_ok he hS hPg hDg (hK.sub (tys' := [(cyI, .int), (cyS, .object RX5)]) [0, 1] rfl) (fun q hq => by rcases hq with ⟨k, e9, h9⟩ | h9; exact (xt_D.mp hD).2 (q, e9) (List.mem_cons_of_mem _ (List.mem_of_getElem? h9)); exact hA q h9) 0 hq rfl rfl) rfl rfl hl.1 rfl (lv_room (Nat.le_of_ble_eq_true rfl)) dL_setCapacity_9 ⟨Nat.le_of_ble_eq_true rfl, Nat.le_of_ble_eq_true rfl⟩) hP hD hS hA (fun E ce q9 H locs hXE hP hS hce hcv hcl => ?_) (fun r u H locs hw hP hD hS => ?_)
  · have htab : c.exceptionTable.toList = tableOf [(0, 14, 17, 13), (0, 14, 21, 15)] := vx_table (x := yL_setCapacity) B9 (hts _ List.mem_cons_self)
    rcases hX E hXE with rfl | rfl
    · refine vx_catch (name := nIO) hown ((tableOf [(0, 14, 17, 13), (0, 14, 21, 15)]).take 0) ((tableOf [(0, 14, 17, 13), (0, 14, 21, 15)]).get ⟨0, by decide⟩) ((tableOf [(0, 14, 17, 13), (0, 14, 21, 15)]).drop 1) (by rw [htab]; rfl) (fun z hz => by cases hz) (by decide) (by decide) w_0 (va_Nw.use rfl (he.exc.2.1 _ (by decide))) hce hcv hcl ?_
      refine lv_astore (lv' := [(6, .ref q9), (0, .ref qa), (1, .int p0), (2, .int p1), (3, .int p2), (4, .int p3), (5, .ref qo)]) hx hb dL_setCapacity_17 hl (by decide) rfl (fun ls hl => ?_)
      refine lv_iconst (v := 1) hx hb dL_setCapacity_19 (by decide) ?_
      refine vx_ret ?_
      exact W.iret (v := (1 : Int32)) hx hb hr (fun t h9 hW => ⟨⟨1, ((c0, of) : CS × (Nat → Int64)), rfl, Or.inr (Or.inl ⟨rfl, hXE, rfl⟩), by rw [h9]; exact hP, hD⟩, hS.F h9⟩) hS.2.2 dL_setCapacity_20
    · refine vx_catch (name := nIA) hown ((tableOf [(0, 14, 17, 13), (0, 14, 21, 15)]).take 1) ((tableOf [(0, 14, 17, 13), (0, 14, 21, 15)]).get ⟨1, by decide⟩) ((tableOf [(0, 14, 17, 13), (0, 14, 21, 15)]).drop 2) (by rw [htab]; rfl) (fun z hz => Or.inr (by rcases List.mem_singleton.mp hz with rfl; exact ⟨(by decide : (13 : Nat) ≠ 0), nIO, w_0, he.exc.2.2.1⟩)) (by decide) (by decide) w_1 (va_Nw.use rfl (he.exc.2.1 _ (by decide))) hce hcv hcl ?_
      refine lv_astore (lv' := [(6, .ref q9), (0, .ref qa), (1, .int p0), (2, .int p1), (3, .int p2), (4, .int p3), (5, .ref qo)]) hx hb dL_setCapacity_21 hl (by decide) rfl (fun ls hl => ?_)
      refine lv_iconst (v := 2) hx hb dL_setCapacity_23 (by decide) ?_
      refine vx_ret ?_
      exact W.iret (v := (2 : Int32)) hx hb hr (fun t h9 hW => ⟨⟨2, ((c0, of) : CS × (Nat → Int64)), rfl, Or.inr (Or.inr ⟨rfl, hXE, rfl⟩), by rw [h9]; exact hP, hD⟩, hS.F h9⟩) hS.2.2 dL_setCapacity_24
  · refine lv_i2l hx hb dL_setCapacity_12 rfl ?_
    refine va_last hx hb hK hP hD hS 0 2 rfl rfl (vp_in_nI (n := 0) (by decide) (by decide)) dL_setCapacity_13 (fun H locs hP hD hS => ?_)
    refine lv_goto (tgt := 25) hx hb dL_setCapacity_14 (by decide) ?_
    refine lv_iconst (v := 0) hx hb dL_setCapacity_25 (by decide) ?_
    refine vx_ret ?_
    exact W.iret (v := (0 : Int32)) hx hb hr (fun t h9 hW => ⟨⟨0, ((u, vp_updL of (0 : Int32).toNatClampNeg r.toInt64) : CS × (Nat → Int64)), rfl, Or.inl ⟨rfl, r, hw, rfl⟩, by rw [h9]; exact hP, hD⟩, hS.F h9⟩) hS.2.2 dL_setCapacity_26
abbrev wqL_fillTable : List Cond := Cond.codeWith yL_fillTable cL_fillTable 5 (some .int) [(0, 10, 13, 13), (0, 10, 17, 15)] :: wB
set_option maxHeartbeats 1000000 in
set_option maxRecDepth 100000 in
theorem HL_fillTable (l : Launch) (dC : Nat → ClassId) (dI : Nat → Nat → Nat) (cyI cyS cyJ : ClassId) (qa qo : Nat) (fs : List Value) (w1 : CS → va_W) (c0 : CS) (hq : (w1 c0)[0]? = some (qa, .inr (8, fs))) (P0 : Int32 → CS → Prop) (XE : String → Prop) (of : Nat → Int64) (p0 : Int32) (p1 : Int32)
    (hM : ∀ sz, vx_Met l yX8_fillTable wqX8_fillTable ({ frames := 7, cells := 17, slots := 272, locals := 131 } : Room) (va_Pc [.ref qa, .int p0, .int p1] (pC (dC, dI) (w1 c0) [(cyI, .int), (cyS, .object RX5)] eX sz)) (va_Qi P0 (fun (u : CS) t => va_P (dC, dI) vwCl (w1 u) t.heap ∧ va_D (va_A (w1 c0) sz) (w1 u)) (va_A (w1 c0) sz)) (vx_X (fun _ : Unit => True) (fun E _ _ => XE E) aF) 17 272 (va_A (w1 c0) sz))
    (hX : ∀ E, XE E → E = nIO ∨ E = nIA) (sz : Nat) :
    vx_Met l yL_fillTable wqL_fillTable ({ frames := 8, cells := 17, slots := 272, locals := 153 } : Room) (va_Pc [.ref qa, .int p0, .int p1, .ref qo] (pC (dC, dI) ((qo, .inl (cyJ, 1, .inr (.inl of))) :: w1 c0) [(cyI, .int), (cyS, .object RX5), (cyJ, .long)] eX sz)) (va_Qi (fun r (u : CS × (Nat → Int64)) => (r = 0 ∧ ∃ v, P0 v u.1 ∧ u.2 0 = v.toInt64) ∨ (r = 1 ∧ XE nIO ∧ u.1 = c0) ∨ (r = 2 ∧ XE nIA ∧ u.1 = c0)) (fun (u : CS × (Nat → Int64)) t => va_P (dC, dI) vwCl ((qo, .inl (cyJ, 1, .inr (.inl u.2))) :: w1 u.1) t.heap ∧ va_D (va_A ((qo, .inl (cyJ, 1, .inr (.inl of))) :: w1 c0) sz) ((qo, .inl (cyJ, 1, .inr (.inl u.2))) :: w1 u.1)) (va_A ((qo, .inl (cyJ, 1, .inr (.inl of))) :: w1 c0) sz)) (vx_X (fun _ : Unit => False) (fun _ _ _ => True) aF) 17 272 (va_A ((qo, .inl (cyJ, 1, .inr (.inl of))) :: w1 c0) sz) := by
  refine vx_ofWH (cc := cL_fillTable) (maxL := 5) (ret := (some .int)) (by decide) rfl ?_
  intro p e s m args below meth c s₁ B9 hml hv
  obtain ⟨rfl, hsz, hP, hK, hD0, he⟩ := hv
  have hx := B9.exec
  have hb := B9.bytes
  have hr := B9.returns
  have hts := atoms_spec (ws := wqL_fillTable) B9.pre
  have hown : s.vm.findClass RL = some m.cls := findClass_of_methodNamed B9.named
  have w_0 := hts (Cond.classLink RL 13 "java/lang/IndexOutOfBoundsException") (List.mem_cons_of_mem _ b_103)
  have w_1 := hts (Cond.classLink RL 15 "java/lang/IllegalArgumentException") (List.mem_cons_of_mem _ b_104)
  subst hsz
  have hD := hD0.self (sz := s.heap.size)
  generalize hAe : va_A ((qo, .inl (cyJ, 1, .inr (.inl of))) :: w1 c0) s.heap.size = A at hD he ⊢
  have hA : ∀ q : Nat, s.heap.size ≤ q → A q := fun q h => by rw [← hAe]; exact Or.inr h
  have hS : va_S A s.heap s.heap [] := va_S.rf
  have hl := lv_entry ([.ref qa, .int p0, .int p1, .ref qo] : List Value) (n := 5) (Nat.le_of_ble_eq_true rfl)
  rw [lg_entry_eq]
  generalize (lg_sl ([.ref qa, .int p0, .int p1, .ref qo] : List Value) ++ List.replicate (5 - (lg_sl ([.ref qa, .int p0, .int p1, .ref qo] : List Value)).length) Slot.unset).toArray = ls at hl ⊢
  have hl : lv_has ls 5 [(0, .ref qa), (1, .int p0), (2, .int p1), (3, .ref qo)] := hl
  refine lv_aload_n hx hb dL_fillTable_0 rfl (lv_at hl 3 rfl) ?_
  refine lv_iconst (v := 0) hx hb dL_fillTable_1 (by decide) ?_
  refine lv_aload_n hx hb dL_fillTable_2 rfl (lv_at hl 0 rfl) ?_
  refine lv_iload_n hx hb dL_fillTable_3 rfl (lv_at hl 1 rfl) ?_
  refine lv_iload_n hx hb dL_fillTable_4 rfl (lv_at hl 2 rfl) ?_
  have hPg : va_P (dC, dI) vwCl (w1 c0) s.heap := xt_P.mpr fun q hq => xt_P.mp hP q (List.mem_cons_of_mem _ hq)
  have hDg : va_D A (w1 c0) := xt_D.mpr ⟨(List.nodup_cons.mp (by rw [← List.map_cons (f := fun q : Nat × va_E => q.1)]; exact (xt_D.mp hD).1)).2, fun q hq => (xt_D.mp hD).2 q (List.mem_cons_of_mem _ hq)⟩
  refine hx_call (XE := XE) (vx_runV (As := [.int p0, .int p1]) (rest := [.int (0 : Int32), .ref qo]) ⟨hx, hb, hml, hown, hts⟩ (hM s.heap.size) (cwV 2 hts (gBV b_241 b_242 b_243 b_2 b_244) rfl rfl rfl (by decide +kernel) ⟨Nat.le_of_ble_eq_true rfl, Nat.le_of_ble_eq_true rfl⟩) (prm_v eX_ok he hS hPg hDg (hK.sub (tys' := [(cyI, .int), (cyS, .object RX5)]) [0, 1] rfl) (fun q hq => by rcases hq with ⟨k, e9, h9⟩ | h9; exact (xt_D.mp hD).2 (q, e9) (List.mem_cons_of_mem _ (List.mem_of_getElem? h9)); exact hA q h9) 0 hq rfl rfl) rfl rfl hl.1 rfl (lv_room (Nat.le_of_ble_eq_true rfl)) dL_fillTable_5 ⟨Nat.le_of_ble_eq_true rfl, Nat.le_of_ble_eq_true rfl⟩) hP hD hS hA (fun E ce q9 H locs hXE hP hS hce hcv hcl => ?_) (fun r u H locs hw hP hD hS => ?_)
  · have htab : c.exceptionTable.toList = tableOf [(0, 10, 13, 13), (0, 10, 17, 15)] := vx_table (x := yL_fillTable) B9 (hts _ List.mem_cons_self)
    rcases hX E hXE with rfl | rfl
    · refine vx_catch (name := nIO) hown ((tableOf [(0, 10, 13, 13), (0, 10, 17, 15)]).take 0) ((tableOf [(0, 10, 13, 13), (0, 10, 17, 15)]).get ⟨0, by decide⟩) ((tableOf [(0, 10, 13, 13), (0, 10, 17, 15)]).drop 1) (by rw [htab]; rfl) (fun z hz => by cases hz) (by decide) (by decide) w_0 (va_Nw.use rfl (he.exc.2.1 _ (by decide))) hce hcv hcl ?_
      refine lv_astore (lv' := [(4, .ref q9), (0, .ref qa), (1, .int p0), (2, .int p1), (3, .ref qo)]) hx hb dL_fillTable_13 hl (by decide) rfl (fun ls hl => ?_)
      refine lv_iconst (v := 1) hx hb dL_fillTable_15 (by decide) ?_
      refine vx_ret ?_
      exact W.iret (v := (1 : Int32)) hx hb hr (fun t h9 hW => ⟨⟨1, ((c0, of) : CS × (Nat → Int64)), rfl, Or.inr (Or.inl ⟨rfl, hXE, rfl⟩), by rw [h9]; exact hP, hD⟩, hS.F h9⟩) hS.2.2 dL_fillTable_16
    · refine vx_catch (name := nIA) hown ((tableOf [(0, 10, 13, 13), (0, 10, 17, 15)]).take 1) ((tableOf [(0, 10, 13, 13), (0, 10, 17, 15)]).get ⟨1, by decide⟩) ((tableOf [(0, 10, 13, 13), (0, 10, 17, 15)]).drop 2) (by rw [htab]; rfl) (fun z hz => Or.inr (by rcases List.mem_singleton.mp hz with rfl; exact ⟨(by decide : (13 : Nat) ≠ 0), nIO, w_0, he.exc.2.2.1⟩)) (by decide) (by decide) w_1 (va_Nw.use rfl (he.exc.2.1 _ (by decide))) hce hcv hcl ?_
      refine lv_astore (lv' := [(4, .ref q9), (0, .ref qa), (1, .int p0), (2, .int p1), (3, .ref qo)]) hx hb dL_fillTable_17 hl (by decide) rfl (fun ls hl => ?_)
      refine lv_iconst (v := 2) hx hb dL_fillTable_19 (by decide) ?_
      refine vx_ret ?_
      exact W.iret (v := (2 : Int32)) hx hb hr (fun t h9 hW => ⟨⟨2, ((c0, of) : CS × (Nat → Int64)), rfl, Or.inr (Or.inr ⟨rfl, hXE, rfl⟩), by rw [h9]; exact hP, hD⟩, hS.F h9⟩) hS.2.2 dL_fillTable_20
  · refine lv_i2l hx hb dL_fillTable_8 rfl ?_
    refine va_last hx hb hK hP hD hS 0 2 rfl rfl (vp_in_nI (n := 0) (by decide) (by decide)) dL_fillTable_9 (fun H locs hP hD hS => ?_)
    refine lv_goto (tgt := 21) hx hb dL_fillTable_10 (by decide) ?_
    refine lv_iconst (v := 0) hx hb dL_fillTable_21 (by decide) ?_
    refine vx_ret ?_
    exact W.iret (v := (0 : Int32)) hx hb hr (fun t h9 hW => ⟨⟨0, ((u, vp_updL of (0 : Int32).toNatClampNeg r.toInt64) : CS × (Nat → Int64)), rfl, Or.inl ⟨rfl, r, hw, rfl⟩, by rw [h9]; exact hP, hD⟩, hS.F h9⟩) hS.2.2 dL_fillTable_22
abbrev wqL_capacity : List Cond := Cond.codeWith yL_capacity cL_capacity 6 (some .int) [(0, 12, 15, 13)] :: wB
set_option maxHeartbeats 1000000 in
set_option maxRecDepth 100000 in
theorem HL_capacity (l : Launch) (dC : Nat → ClassId) (dI : Nat → Nat → Nat) (cyI cyS cyJ : ClassId) (qa qo : Nat) (fs : List Value) (w1 : CS → va_W) (c0 : CS) (hq : (w1 c0)[0]? = some (qa, .inr (8, fs))) (P0 : Int32 → CS → Prop) (XE : String → Prop) (of : Nat → Int64) (p0 : Int32) (p1 : Int32) (p2 : Int32)
    (hM : ∀ sz, vx_Met l yX8_capacity wqX8_capacity ({ frames := 8, cells := 3, slots := 18, locals := 125 } : Room) (va_Pc [.ref qa, .int p0, .int p1, .int p2] (pC (dC, dI) (w1 c0) [(cyI, .int), (cyS, .object RX5)] eX sz)) (va_Qi P0 (fun (u : CS) t => va_P (dC, dI) vwCl (w1 u) t.heap ∧ va_D (va_A (w1 c0) sz) (w1 u)) (va_A (w1 c0) sz)) (vx_X (fun _ : Unit => True) (fun E _ _ => XE E) aF) 3 18 (va_A (w1 c0) sz))
    (hX : ∀ E, XE E → E = nIO) (sz : Nat) :
    vx_Met l yL_capacity wqL_capacity ({ frames := 9, cells := 3, slots := 18, locals := 148 } : Room) (va_Pc [.ref qa, .int p0, .int p1, .int p2, .ref qo] (pC (dC, dI) ((qo, .inl (cyJ, 1, .inr (.inl of))) :: w1 c0) [(cyI, .int), (cyS, .object RX5), (cyJ, .long)] eX sz)) (va_Qi (fun r (u : CS × (Nat → Int64)) => (r = 0 ∧ ∃ v, P0 v u.1 ∧ u.2 0 = v.toInt64) ∨ (r = 1 ∧ XE nIO ∧ u.1 = c0)) (fun (u : CS × (Nat → Int64)) t => va_P (dC, dI) vwCl ((qo, .inl (cyJ, 1, .inr (.inl u.2))) :: w1 u.1) t.heap ∧ va_D (va_A ((qo, .inl (cyJ, 1, .inr (.inl of))) :: w1 c0) sz) ((qo, .inl (cyJ, 1, .inr (.inl u.2))) :: w1 u.1)) (va_A ((qo, .inl (cyJ, 1, .inr (.inl of))) :: w1 c0) sz)) (vx_X (fun _ : Unit => False) (fun _ _ _ => True) aF) 3 18 (va_A ((qo, .inl (cyJ, 1, .inr (.inl of))) :: w1 c0) sz) := by
  refine vx_ofWH (cc := cL_capacity) (maxL := 6) (ret := (some .int)) (by decide) rfl ?_
  intro p e s m args below meth c s₁ B9 hml hv
  obtain ⟨rfl, hsz, hP, hK, hD0, he⟩ := hv
  have hx := B9.exec
  have hb := B9.bytes
  have hr := B9.returns
  have hts := atoms_spec (ws := wqL_capacity) B9.pre
  have hown : s.vm.findClass RL = some m.cls := findClass_of_methodNamed B9.named
  have w_0 := hts (Cond.classLink RL 13 "java/lang/IndexOutOfBoundsException") (List.mem_cons_of_mem _ b_103)
  subst hsz
  have hD := hD0.self (sz := s.heap.size)
  generalize hAe : va_A ((qo, .inl (cyJ, 1, .inr (.inl of))) :: w1 c0) s.heap.size = A at hD he ⊢
  have hA : ∀ q : Nat, s.heap.size ≤ q → A q := fun q h => by rw [← hAe]; exact Or.inr h
  have hS : va_S A s.heap s.heap [] := va_S.rf
  have hl := lv_entry ([.ref qa, .int p0, .int p1, .int p2, .ref qo] : List Value) (n := 6) (Nat.le_of_ble_eq_true rfl)
  rw [lg_entry_eq]
  generalize (lg_sl ([.ref qa, .int p0, .int p1, .int p2, .ref qo] : List Value) ++ List.replicate (6 - (lg_sl ([.ref qa, .int p0, .int p1, .int p2, .ref qo] : List Value)).length) Slot.unset).toArray = ls at hl ⊢
  have hl : lv_has ls 6 [(0, .ref qa), (1, .int p0), (2, .int p1), (3, .int p2), (4, .ref qo)] := hl
  refine lv_aload hx hb dL_capacity_0 (lv_at hl 4 rfl) ?_
  refine lv_iconst (v := 0) hx hb dL_capacity_2 (by decide) ?_
  refine lv_aload_n hx hb dL_capacity_3 rfl (lv_at hl 0 rfl) ?_
  refine lv_iload_n hx hb dL_capacity_4 rfl (lv_at hl 1 rfl) ?_
  refine lv_iload_n hx hb dL_capacity_5 rfl (lv_at hl 2 rfl) ?_
  refine lv_iload_n hx hb dL_capacity_6 rfl (lv_at hl 3 rfl) ?_
  have hPg : va_P (dC, dI) vwCl (w1 c0) s.heap := xt_P.mpr fun q hq => xt_P.mp hP q (List.mem_cons_of_mem _ hq)
  have hDg : va_D A (w1 c0) := xt_D.mpr ⟨(List.nodup_cons.mp (by rw [← List.map_cons (f := fun q : Nat × va_E => q.1)]; exact (xt_D.mp hD).1)).2, fun q hq => (xt_D.mp hD).2 q (List.mem_cons_of_mem _ hq)⟩
  refine hx_call (XE := XE) (vx_runV (As := [.int p0, .int p1, .int p2]) (rest := [.int (0 : Int32), .ref qo]) ⟨hx, hb, hml, hown, hts⟩ (hM s.heap.size) (cwV 3 hts (gBV b_277 b_278 b_279 b_2 b_280) rfl rfl rfl (by decide +kernel) ⟨Nat.le_of_ble_eq_true rfl, Nat.le_of_ble_eq_true rfl⟩) (prm_v eX_ok he hS hPg hDg (hK.sub (tys' := [(cyI, .int), (cyS, .object RX5)]) [0, 1] rfl) (fun q hq => by rcases hq with ⟨k, e9, h9⟩ | h9; exact (xt_D.mp hD).2 (q, e9) (List.mem_cons_of_mem _ (List.mem_of_getElem? h9)); exact hA q h9) 0 hq rfl rfl) rfl rfl hl.1 rfl (lv_room (Nat.le_of_ble_eq_true rfl)) dL_capacity_7 ⟨Nat.le_of_ble_eq_true rfl, Nat.le_of_ble_eq_true rfl⟩) hP hD hS hA (fun E ce q9 H locs hXE hP hS hce hcv hcl => ?_) (fun r u H locs hw hP hD hS => ?_)
  · have htab : c.exceptionTable.toList = tableOf [(0, 12, 15, 13)] := vx_table (x := yL_capacity) B9 (hts _ List.mem_cons_self)
    have hE := hX E hXE
    subst hE
    refine vx_catch (name := nIO) hown ((tableOf [(0, 12, 15, 13)]).take 0) ((tableOf [(0, 12, 15, 13)]).get ⟨0, by decide⟩) ((tableOf [(0, 12, 15, 13)]).drop 1) (by rw [htab]; rfl) (fun z hz => by cases hz) (by decide) (by decide) w_0 (va_Nw.use rfl (he.exc.2.1 _ (by decide))) hce hcv hcl ?_
    refine lv_astore (lv' := [(5, .ref q9), (0, .ref qa), (1, .int p0), (2, .int p1), (3, .int p2), (4, .ref qo)]) hx hb dL_capacity_15 hl (by decide) rfl (fun ls hl => ?_)
    refine lv_iconst (v := 1) hx hb dL_capacity_17 (by decide) ?_
    refine vx_ret ?_
    exact W.iret (v := (1 : Int32)) hx hb hr (fun t h9 hW => ⟨⟨1, ((c0, of) : CS × (Nat → Int64)), rfl, Or.inr ⟨rfl, hXE, rfl⟩, by rw [h9]; exact hP, hD⟩, hS.F h9⟩) hS.2.2 dL_capacity_18
  · refine lv_i2l hx hb dL_capacity_10 rfl ?_
    refine va_last hx hb hK hP hD hS 0 2 rfl rfl (vp_in_nI (n := 0) (by decide) (by decide)) dL_capacity_11 (fun H locs hP hD hS => ?_)
    refine lv_goto (tgt := 19) hx hb dL_capacity_12 (by decide) ?_
    refine lv_iconst (v := 0) hx hb dL_capacity_19 (by decide) ?_
    refine vx_ret ?_
    exact W.iret (v := (0 : Int32)) hx hb hr (fun t h9 hW => ⟨⟨0, ((u, vp_updL of (0 : Int32).toNatClampNeg r.toInt64) : CS × (Nat → Int64)), rfl, Or.inl ⟨rfl, r, hw, rfl⟩, by rw [h9]; exact hP, hD⟩, hS.F h9⟩) hS.2.2 dL_capacity_20
abbrev wqL_addZone : List Cond := Cond.codeWith yL_addZone cL_addZone 7 (some .int) [(0, 14, 17, 15), (0, 14, 21, 31)] :: wB
set_option maxHeartbeats 1000000 in
set_option maxRecDepth 100000 in
theorem HL_addZone (l : Launch) (dC : Nat → ClassId) (dI : Nat → Nat → Nat) (cyI cyS cyJ : ClassId) (qa qo : Nat) (fs : List Value) (w1 : CS → va_W) (c0 : CS) (hq : (w1 c0)[0]? = some (qa, .inr (8, fs))) (P0 : Int32 → CS → Prop) (XE : String → Prop) (of : Nat → Int64) (p0 : Int32) (p1 : Int32) (p2 : Int32) (p3 : Int32)
    (hM : ∀ sz, vx_Met l yX8_addZone wqX8_addZone ({ frames := 8, cells := 20, slots := 290, locals := 131 } : Room) (va_Pc [.ref qa, .int p0, .int p1, .int p2, .int p3] (pC (dC, dI) (w1 c0) [(cyI, .int), (cyS, .object RX5)] eX sz)) (va_Qi P0 (fun (u : CS) t => va_P (dC, dI) vwCl (w1 u) t.heap ∧ va_D (va_A (w1 c0) sz) (w1 u)) (va_A (w1 c0) sz)) (vx_X (fun _ : Unit => True) (fun E _ _ => XE E) aF) 20 290 (va_A (w1 c0) sz))
    (hX : ∀ E, XE E → E = nIA ∨ E = nIS) (sz : Nat) :
    vx_Met l yL_addZone wqL_addZone ({ frames := 9, cells := 20, slots := 290, locals := 155 } : Room) (va_Pc [.ref qa, .int p0, .int p1, .int p2, .int p3, .ref qo] (pC (dC, dI) ((qo, .inl (cyJ, 1, .inr (.inl of))) :: w1 c0) [(cyI, .int), (cyS, .object RX5), (cyJ, .long)] eX sz)) (va_Qi (fun r (u : CS × (Nat → Int64)) => (r = 0 ∧ ∃ v, P0 v u.1 ∧ u.2 0 = v.toInt64) ∨ (r = 1 ∧ XE nIA ∧ u.1 = c0) ∨ (r = 2 ∧ XE nIS ∧ u.1 = c0)) (fun (u : CS × (Nat → Int64)) t => va_P (dC, dI) vwCl ((qo, .inl (cyJ, 1, .inr (.inl u.2))) :: w1 u.1) t.heap ∧ va_D (va_A ((qo, .inl (cyJ, 1, .inr (.inl of))) :: w1 c0) sz) ((qo, .inl (cyJ, 1, .inr (.inl u.2))) :: w1 u.1)) (va_A ((qo, .inl (cyJ, 1, .inr (.inl of))) :: w1 c0) sz)) (vx_X (fun _ : Unit => False) (fun _ _ _ => True) aF) 20 290 (va_A ((qo, .inl (cyJ, 1, .inr (.inl of))) :: w1 c0) sz) := by
  refine vx_ofWH (cc := cL_addZone) (maxL := 7) (ret := (some .int)) (by decide) rfl ?_
  intro p e s m args below meth c s₁ B9 hml hv
  obtain ⟨rfl, hsz, hP, hK, hD0, he⟩ := hv
  have hx := B9.exec
  have hb := B9.bytes
  have hr := B9.returns
  have hts := atoms_spec (ws := wqL_addZone) B9.pre
  have hown : s.vm.findClass RL = some m.cls := findClass_of_methodNamed B9.named
  have w_0 := hts (Cond.classLink RL 15 "java/lang/IllegalArgumentException") (List.mem_cons_of_mem _ b_104)
  have w_1 := hts (Cond.classLink RL 31 "java/lang/IllegalStateException") (List.mem_cons_of_mem _ b_292)
  subst hsz
  have hD := hD0.self (sz := s.heap.size)
  generalize hAe : va_A ((qo, .inl (cyJ, 1, .inr (.inl of))) :: w1 c0) s.heap.size = A at hD he ⊢
  have hA : ∀ q : Nat, s.heap.size ≤ q → A q := fun q h => by rw [← hAe]; exact Or.inr h
  have hS : va_S A s.heap s.heap [] := va_S.rf
  have hl := lv_entry ([.ref qa, .int p0, .int p1, .int p2, .int p3, .ref qo] : List Value) (n := 7) (Nat.le_of_ble_eq_true rfl)
  rw [lg_entry_eq]
  generalize (lg_sl ([.ref qa, .int p0, .int p1, .int p2, .int p3, .ref qo] : List Value) ++ List.replicate (7 - (lg_sl ([.ref qa, .int p0, .int p1, .int p2, .int p3, .ref qo] : List Value)).length) Slot.unset).toArray = ls at hl ⊢
  have hl : lv_has ls 7 [(0, .ref qa), (1, .int p0), (2, .int p1), (3, .int p2), (4, .int p3), (5, .ref qo)] := hl
  refine lv_aload hx hb dL_addZone_0 (lv_at hl 5 rfl) ?_
  refine lv_iconst (v := 0) hx hb dL_addZone_2 (by decide) ?_
  refine lv_aload_n hx hb dL_addZone_3 rfl (lv_at hl 0 rfl) ?_
  refine lv_iload_n hx hb dL_addZone_4 rfl (lv_at hl 1 rfl) ?_
  refine lv_iload_n hx hb dL_addZone_5 rfl (lv_at hl 2 rfl) ?_
  refine lv_iload_n hx hb dL_addZone_6 rfl (lv_at hl 3 rfl) ?_
  refine lv_iload hx hb dL_addZone_7 (lv_at hl 4 rfl) ?_
  have hPg : va_P (dC, dI) vwCl (w1 c0) s.heap := xt_P.mpr fun q hq => xt_P.mp hP q (List.mem_cons_of_mem _ hq)
  have hDg : va_D A (w1 c0) := xt_D.mpr ⟨(List.nodup_cons.mp (by rw [← List.map_cons (f := fun q : Nat × va_E => q.1)]; exact (xt_D.mp hD).1)).2, fun q hq => (xt_D.mp hD).2 q (List.mem_cons_of_mem _ hq)⟩
  refine hx_call (XE := XE) (vx_runV (As := [.int p0, .int p1, .int p2, .int p3]) (rest := [.int (0 : Int32), .ref qo]) ⟨hx, hb, hml, hown, hts⟩ (hM s.heap.size) (cwV 4 hts (gBV b_293 b_294 b_295 b_2 b_296) rfl rfl rfl (by decide +kernel) ⟨Nat.le_of_ble_eq_true rfl, Nat.le_of_ble_eq_true rfl⟩) (prm_v eX_ok he hS hPg hDg (hK.sub (tys' := [(cyI, .int), (cyS, .object RX5)]) [0, 1] rfl) (fun q hq => by rcases hq with ⟨k, e9, h9⟩ | h9; exact (xt_D.mp hD).2 (q, e9) (List.mem_cons_of_mem _ (List.mem_of_getElem? h9)); exact hA q h9) 0 hq rfl rfl) rfl rfl hl.1 rfl (lv_room (Nat.le_of_ble_eq_true rfl)) dL_addZone_9 ⟨Nat.le_of_ble_eq_true rfl, Nat.le_of_ble_eq_true rfl⟩) hP hD hS hA (fun E ce q9 H locs hXE hP hS hce hcv hcl => ?_) (fun r u H locs hw hP hD hS => ?_)
  · have htab : c.exceptionTable.toList = tableOf [(0, 14, 17, 15), (0, 14, 21, 31)] := vx_table (x := yL_addZone) B9 (hts _ List.mem_cons_self)
    rcases hX E hXE with rfl | rfl
    · refine vx_catch (name := nIA) hown ((tableOf [(0, 14, 17, 15), (0, 14, 21, 31)]).take 0) ((tableOf [(0, 14, 17, 15), (0, 14, 21, 31)]).get ⟨0, by decide⟩) ((tableOf [(0, 14, 17, 15), (0, 14, 21, 31)]).drop 1) (by rw [htab]; rfl) (fun z hz => by cases hz) (by decide) (by decide) w_0 (va_Nw.use rfl (he.exc.2.1 _ (by decide))) hce hcv hcl ?_
      refine lv_astore (lv' := [(6, .ref q9), (0, .ref qa), (1, .int p0), (2, .int p1), (3, .int p2), (4, .int p3), (5, .ref qo)]) hx hb dL_addZone_17 hl (by decide) rfl (fun ls hl => ?_)
      refine lv_iconst (v := 1) hx hb dL_addZone_19 (by decide) ?_
      refine vx_ret ?_
      exact W.iret (v := (1 : Int32)) hx hb hr (fun t h9 hW => ⟨⟨1, ((c0, of) : CS × (Nat → Int64)), rfl, Or.inr (Or.inl ⟨rfl, hXE, rfl⟩), by rw [h9]; exact hP, hD⟩, hS.F h9⟩) hS.2.2 dL_addZone_20
    · refine vx_catch (name := nIS) hown ((tableOf [(0, 14, 17, 15), (0, 14, 21, 31)]).take 1) ((tableOf [(0, 14, 17, 15), (0, 14, 21, 31)]).get ⟨1, by decide⟩) ((tableOf [(0, 14, 17, 15), (0, 14, 21, 31)]).drop 2) (by rw [htab]; rfl) (fun z hz => Or.inr (by rcases List.mem_singleton.mp hz with rfl; exact ⟨(by decide : (15 : Nat) ≠ 0), nIA, w_0, he.exc.2.2.2⟩)) (by decide) (by decide) w_1 (va_Nw.use rfl (he.exc.2.1 _ (by decide))) hce hcv hcl ?_
      refine lv_astore (lv' := [(6, .ref q9), (0, .ref qa), (1, .int p0), (2, .int p1), (3, .int p2), (4, .int p3), (5, .ref qo)]) hx hb dL_addZone_21 hl (by decide) rfl (fun ls hl => ?_)
      refine lv_iconst (v := 2) hx hb dL_addZone_23 (by decide) ?_
      refine vx_ret ?_
      exact W.iret (v := (2 : Int32)) hx hb hr (fun t h9 hW => ⟨⟨2, ((c0, of) : CS × (Nat → Int64)), rfl, Or.inr (Or.inr ⟨rfl, hXE, rfl⟩), by rw [h9]; exact hP, hD⟩, hS.F h9⟩) hS.2.2 dL_addZone_24
  · refine lv_i2l hx hb dL_addZone_12 rfl ?_
    refine va_last hx hb hK hP hD hS 0 2 rfl rfl (vp_in_nI (n := 0) (by decide) (by decide)) dL_addZone_13 (fun H locs hP hD hS => ?_)
    refine lv_goto (tgt := 25) hx hb dL_addZone_14 (by decide) ?_
    refine lv_iconst (v := 0) hx hb dL_addZone_25 (by decide) ?_
    refine vx_ret ?_
    exact W.iret (v := (0 : Int32)) hx hb hr (fun t h9 hW => ⟨⟨0, ((u, vp_updL of (0 : Int32).toNatClampNeg r.toInt64) : CS × (Nat → Int64)), rfl, Or.inl ⟨rfl, r, hw, rfl⟩, by rw [h9]; exact hP, hD⟩, hS.F h9⟩) hS.2.2 dL_addZone_26
abbrev wqL_removeZone : List Cond := Cond.codeWith yL_removeZone cL_removeZone 4 (some .int) [(0, 9, 12, 13)] :: wB
set_option maxHeartbeats 1000000 in
set_option maxRecDepth 100000 in
theorem HL_removeZone (l : Launch) (dC : Nat → ClassId) (dI : Nat → Nat → Nat) (cyI cyS cyJ : ClassId) (qa qo : Nat) (fs : List Value) (w1 : CS → va_W) (c0 : CS) (hq : (w1 c0)[0]? = some (qa, .inr (8, fs))) (P0 : Int32 → CS → Prop) (XE : String → Prop) (of : Nat → Int64) (p0 : Int32)
    (hM : ∀ sz, vx_Met l yX8_removeZone wqX8_removeZone ({ frames := 7, cells := 16, slots := 266, locals := 131 } : Room) (va_Pc [.ref qa, .int p0] (pC (dC, dI) (w1 c0) [(cyI, .int), (cyS, .object RX5)] eX sz)) (va_Qi P0 (fun (u : CS) t => va_P (dC, dI) vwCl (w1 u) t.heap ∧ va_D (va_A (w1 c0) sz) (w1 u)) (va_A (w1 c0) sz)) (vx_X (fun _ : Unit => True) (fun E _ _ => XE E) aF) 16 266 (va_A (w1 c0) sz))
    (hX : ∀ E, XE E → E = nIO) (sz : Nat) :
    vx_Met l yL_removeZone wqL_removeZone ({ frames := 8, cells := 16, slots := 266, locals := 152 } : Room) (va_Pc [.ref qa, .int p0, .ref qo] (pC (dC, dI) ((qo, .inl (cyJ, 1, .inr (.inl of))) :: w1 c0) [(cyI, .int), (cyS, .object RX5), (cyJ, .long)] eX sz)) (va_Qi (fun r (u : CS × (Nat → Int64)) => (r = 0 ∧ ∃ v, P0 v u.1 ∧ u.2 0 = v.toInt64) ∨ (r = 1 ∧ XE nIO ∧ u.1 = c0)) (fun (u : CS × (Nat → Int64)) t => va_P (dC, dI) vwCl ((qo, .inl (cyJ, 1, .inr (.inl u.2))) :: w1 u.1) t.heap ∧ va_D (va_A ((qo, .inl (cyJ, 1, .inr (.inl of))) :: w1 c0) sz) ((qo, .inl (cyJ, 1, .inr (.inl u.2))) :: w1 u.1)) (va_A ((qo, .inl (cyJ, 1, .inr (.inl of))) :: w1 c0) sz)) (vx_X (fun _ : Unit => False) (fun _ _ _ => True) aF) 16 266 (va_A ((qo, .inl (cyJ, 1, .inr (.inl of))) :: w1 c0) sz) := by
  refine vx_ofWH (cc := cL_removeZone) (maxL := 4) (ret := (some .int)) (by decide) rfl ?_
  intro p e s m args below meth c s₁ B9 hml hv
  obtain ⟨rfl, hsz, hP, hK, hD0, he⟩ := hv
  have hx := B9.exec
  have hb := B9.bytes
  have hr := B9.returns
  have hts := atoms_spec (ws := wqL_removeZone) B9.pre
  have hown : s.vm.findClass RL = some m.cls := findClass_of_methodNamed B9.named
  have w_0 := hts (Cond.classLink RL 13 "java/lang/IndexOutOfBoundsException") (List.mem_cons_of_mem _ b_103)
  subst hsz
  have hD := hD0.self (sz := s.heap.size)
  generalize hAe : va_A ((qo, .inl (cyJ, 1, .inr (.inl of))) :: w1 c0) s.heap.size = A at hD he ⊢
  have hA : ∀ q : Nat, s.heap.size ≤ q → A q := fun q h => by rw [← hAe]; exact Or.inr h
  have hS : va_S A s.heap s.heap [] := va_S.rf
  have hl := lv_entry ([.ref qa, .int p0, .ref qo] : List Value) (n := 4) (Nat.le_of_ble_eq_true rfl)
  rw [lg_entry_eq]
  generalize (lg_sl ([.ref qa, .int p0, .ref qo] : List Value) ++ List.replicate (4 - (lg_sl ([.ref qa, .int p0, .ref qo] : List Value)).length) Slot.unset).toArray = ls at hl ⊢
  have hl : lv_has ls 4 [(0, .ref qa), (1, .int p0), (2, .ref qo)] := hl
  refine lv_aload_n hx hb dL_removeZone_0 rfl (lv_at hl 2 rfl) ?_
  refine lv_iconst (v := 0) hx hb dL_removeZone_1 (by decide) ?_
  refine lv_aload_n hx hb dL_removeZone_2 rfl (lv_at hl 0 rfl) ?_
  refine lv_iload_n hx hb dL_removeZone_3 rfl (lv_at hl 1 rfl) ?_
  have hPg : va_P (dC, dI) vwCl (w1 c0) s.heap := xt_P.mpr fun q hq => xt_P.mp hP q (List.mem_cons_of_mem _ hq)
  have hDg : va_D A (w1 c0) := xt_D.mpr ⟨(List.nodup_cons.mp (by rw [← List.map_cons (f := fun q : Nat × va_E => q.1)]; exact (xt_D.mp hD).1)).2, fun q hq => (xt_D.mp hD).2 q (List.mem_cons_of_mem _ hq)⟩
  refine hx_call (XE := XE) (vx_runV (As := [.int p0]) (rest := [.int (0 : Int32), .ref qo]) ⟨hx, hb, hml, hown, hts⟩ (hM s.heap.size) (cwV 1 hts (gBV b_318 b_319 b_320 b_2 b_321) rfl rfl rfl (by decide +kernel) ⟨Nat.le_of_ble_eq_true rfl, Nat.le_of_ble_eq_true rfl⟩) (prm_v eX_ok he hS hPg hDg (hK.sub (tys' := [(cyI, .int), (cyS, .object RX5)]) [0, 1] rfl) (fun q hq => by rcases hq with ⟨k, e9, h9⟩ | h9; exact (xt_D.mp hD).2 (q, e9) (List.mem_cons_of_mem _ (List.mem_of_getElem? h9)); exact hA q h9) 0 hq rfl rfl) rfl rfl hl.1 rfl (lv_room (Nat.le_of_ble_eq_true rfl)) dL_removeZone_4 ⟨Nat.le_of_ble_eq_true rfl, Nat.le_of_ble_eq_true rfl⟩) hP hD hS hA (fun E ce q9 H locs hXE hP hS hce hcv hcl => ?_) (fun r u H locs hw hP hD hS => ?_)
  · have htab : c.exceptionTable.toList = tableOf [(0, 9, 12, 13)] := vx_table (x := yL_removeZone) B9 (hts _ List.mem_cons_self)
    have hE := hX E hXE
    subst hE
    refine vx_catch (name := nIO) hown ((tableOf [(0, 9, 12, 13)]).take 0) ((tableOf [(0, 9, 12, 13)]).get ⟨0, by decide⟩) ((tableOf [(0, 9, 12, 13)]).drop 1) (by rw [htab]; rfl) (fun z hz => by cases hz) (by decide) (by decide) w_0 (va_Nw.use rfl (he.exc.2.1 _ (by decide))) hce hcv hcl ?_
    refine lv_astore_n (lv' := [(3, .ref q9), (0, .ref qa), (1, .int p0), (2, .ref qo)]) hx hb dL_removeZone_12 rfl hl (by decide) rfl (fun ls hl => ?_)
    refine lv_iconst (v := 1) hx hb dL_removeZone_13 (by decide) ?_
    refine vx_ret ?_
    exact W.iret (v := (1 : Int32)) hx hb hr (fun t h9 hW => ⟨⟨1, ((c0, of) : CS × (Nat → Int64)), rfl, Or.inr ⟨rfl, hXE, rfl⟩, by rw [h9]; exact hP, hD⟩, hS.F h9⟩) hS.2.2 dL_removeZone_14
  · refine lv_i2l hx hb dL_removeZone_7 rfl ?_
    refine va_last hx hb hK hP hD hS 0 2 rfl rfl (vp_in_nI (n := 0) (by decide) (by decide)) dL_removeZone_8 (fun H locs hP hD hS => ?_)
    refine lv_goto (tgt := 15) hx hb dL_removeZone_9 (by decide) ?_
    refine lv_iconst (v := 0) hx hb dL_removeZone_15 (by decide) ?_
    refine vx_ret ?_
    exact W.iret (v := (0 : Int32)) hx hb hr (fun t h9 hW => ⟨⟨0, ((u, vp_updL of (0 : Int32).toNatClampNeg r.toInt64) : CS × (Nat → Int64)), rfl, Or.inl ⟨rfl, r, hw, rfl⟩, by rw [h9]; exact hP, hD⟩, hS.F h9⟩) hS.2.2 dL_removeZone_16
abbrev wqL_setBoom : List Cond := Cond.codeWith yL_setBoom cL_setBoom 6 (some .int) [(0, 12, 15, 15), (0, 12, 19, 31)] :: wB
set_option maxHeartbeats 1000000 in
set_option maxRecDepth 100000 in
theorem HL_setBoom (l : Launch) (dC : Nat → ClassId) (dI : Nat → Nat → Nat) (cyI cyS cyJ : ClassId) (qa qo : Nat) (fs : List Value) (w1 : CS → va_W) (c0 : CS) (hq : (w1 c0)[0]? = some (qa, .inr (8, fs))) (P0 : Int32 → CS → Prop) (XE : String → Prop) (of : Nat → Int64) (p0 : Int32) (p1 : Int32) (p2 : Int32)
    (hM : ∀ sz, vx_Met l yX8_setBoom wqX8_setBoom ({ frames := 9, cells := 19, slots := 284, locals := 146 } : Room) (va_Pc [.ref qa, .int p0, .int p1, .int p2] (pC (dC, dI) (w1 c0) [(cyI, .int), (cyS, .object RX5)] eX sz)) (va_Qi P0 (fun (u : CS) t => va_P (dC, dI) vwCl (w1 u) t.heap ∧ va_D (va_A (w1 c0) sz) (w1 u)) (va_A (w1 c0) sz)) (vx_X (fun _ : Unit => True) (fun E _ _ => XE E) aF) 19 284 (va_A (w1 c0) sz))
    (hX : ∀ E, XE E → E = nIA ∨ E = nIS) (sz : Nat) :
    vx_Met l yL_setBoom wqL_setBoom ({ frames := 10, cells := 19, slots := 284, locals := 169 } : Room) (va_Pc [.ref qa, .int p0, .int p1, .int p2, .ref qo] (pC (dC, dI) ((qo, .inl (cyJ, 1, .inr (.inl of))) :: w1 c0) [(cyI, .int), (cyS, .object RX5), (cyJ, .long)] eX sz)) (va_Qi (fun r (u : CS × (Nat → Int64)) => (r = 0 ∧ ∃ v, P0 v u.1 ∧ u.2 0 = v.toInt64) ∨ (r = 1 ∧ XE nIA ∧ u.1 = c0) ∨ (r = 2 ∧ XE nIS ∧ u.1 = c0)) (fun (u : CS × (Nat → Int64)) t => va_P (dC, dI) vwCl ((qo, .inl (cyJ, 1, .inr (.inl u.2))) :: w1 u.1) t.heap ∧ va_D (va_A ((qo, .inl (cyJ, 1, .inr (.inl of))) :: w1 c0) sz) ((qo, .inl (cyJ, 1, .inr (.inl u.2))) :: w1 u.1)) (va_A ((qo, .inl (cyJ, 1, .inr (.inl of))) :: w1 c0) sz)) (vx_X (fun _ : Unit => False) (fun _ _ _ => True) aF) 19 284 (va_A ((qo, .inl (cyJ, 1, .inr (.inl of))) :: w1 c0) sz) := by
  refine vx_ofWH (cc := cL_setBoom) (maxL := 6) (ret := (some .int)) (by decide) rfl ?_
  intro p e s m args below meth c s₁ B9 hml hv
  obtain ⟨rfl, hsz, hP, hK, hD0, he⟩ := hv
  have hx := B9.exec
  have hb := B9.bytes
  have hr := B9.returns
  have hts := atoms_spec (ws := wqL_setBoom) B9.pre
  have hown : s.vm.findClass RL = some m.cls := findClass_of_methodNamed B9.named
  have w_0 := hts (Cond.classLink RL 15 "java/lang/IllegalArgumentException") (List.mem_cons_of_mem _ b_104)
  have w_1 := hts (Cond.classLink RL 31 "java/lang/IllegalStateException") (List.mem_cons_of_mem _ b_292)
  subst hsz
  have hD := hD0.self (sz := s.heap.size)
  generalize hAe : va_A ((qo, .inl (cyJ, 1, .inr (.inl of))) :: w1 c0) s.heap.size = A at hD he ⊢
  have hA : ∀ q : Nat, s.heap.size ≤ q → A q := fun q h => by rw [← hAe]; exact Or.inr h
  have hS : va_S A s.heap s.heap [] := va_S.rf
  have hl := lv_entry ([.ref qa, .int p0, .int p1, .int p2, .ref qo] : List Value) (n := 6) (Nat.le_of_ble_eq_true rfl)
  rw [lg_entry_eq]
  generalize (lg_sl ([.ref qa, .int p0, .int p1, .int p2, .ref qo] : List Value) ++ List.replicate (6 - (lg_sl ([.ref qa, .int p0, .int p1, .int p2, .ref qo] : List Value)).length) Slot.unset).toArray = ls at hl ⊢
  have hl : lv_has ls 6 [(0, .ref qa), (1, .int p0), (2, .int p1), (3, .int p2), (4, .ref qo)] := hl
  refine lv_aload hx hb dL_setBoom_0 (lv_at hl 4 rfl) ?_
  refine lv_iconst (v := 0) hx hb dL_setBoom_2 (by decide) ?_
  refine lv_aload_n hx hb dL_setBoom_3 rfl (lv_at hl 0 rfl) ?_
  refine lv_iload_n hx hb dL_setBoom_4 rfl (lv_at hl 1 rfl) ?_
  refine lv_iload_n hx hb dL_setBoom_5 rfl (lv_at hl 2 rfl) ?_
  refine lv_iload_n hx hb dL_setBoom_6 rfl (lv_at hl 3 rfl) ?_
  have hPg : va_P (dC, dI) vwCl (w1 c0) s.heap := xt_P.mpr fun q hq => xt_P.mp hP q (List.mem_cons_of_mem _ hq)
  have hDg : va_D A (w1 c0) := xt_D.mpr ⟨(List.nodup_cons.mp (by rw [← List.map_cons (f := fun q : Nat × va_E => q.1)]; exact (xt_D.mp hD).1)).2, fun q hq => (xt_D.mp hD).2 q (List.mem_cons_of_mem _ hq)⟩
  refine hx_call (XE := XE) (vx_runV (As := [.int p0, .int p1, .int p2]) (rest := [.int (0 : Int32), .ref qo]) ⟨hx, hb, hml, hown, hts⟩ (hM s.heap.size) (cwV 3 hts (gBV b_333 b_334 b_335 b_2 b_336) rfl rfl rfl (by decide +kernel) ⟨Nat.le_of_ble_eq_true rfl, Nat.le_of_ble_eq_true rfl⟩) (prm_v eX_ok he hS hPg hDg (hK.sub (tys' := [(cyI, .int), (cyS, .object RX5)]) [0, 1] rfl) (fun q hq => by rcases hq with ⟨k, e9, h9⟩ | h9; exact (xt_D.mp hD).2 (q, e9) (List.mem_cons_of_mem _ (List.mem_of_getElem? h9)); exact hA q h9) 0 hq rfl rfl) rfl rfl hl.1 rfl (lv_room (Nat.le_of_ble_eq_true rfl)) dL_setBoom_7 ⟨Nat.le_of_ble_eq_true rfl, Nat.le_of_ble_eq_true rfl⟩) hP hD hS hA (fun E ce q9 H locs hXE hP hS hce hcv hcl => ?_) (fun r u H locs hw hP hD hS => ?_)
  · have htab : c.exceptionTable.toList = tableOf [(0, 12, 15, 15), (0, 12, 19, 31)] := vx_table (x := yL_setBoom) B9 (hts _ List.mem_cons_self)
    rcases hX E hXE with rfl | rfl
    · refine vx_catch (name := nIA) hown ((tableOf [(0, 12, 15, 15), (0, 12, 19, 31)]).take 0) ((tableOf [(0, 12, 15, 15), (0, 12, 19, 31)]).get ⟨0, by decide⟩) ((tableOf [(0, 12, 15, 15), (0, 12, 19, 31)]).drop 1) (by rw [htab]; rfl) (fun z hz => by cases hz) (by decide) (by decide) w_0 (va_Nw.use rfl (he.exc.2.1 _ (by decide))) hce hcv hcl ?_
      refine lv_astore (lv' := [(5, .ref q9), (0, .ref qa), (1, .int p0), (2, .int p1), (3, .int p2), (4, .ref qo)]) hx hb dL_setBoom_15 hl (by decide) rfl (fun ls hl => ?_)
      refine lv_iconst (v := 1) hx hb dL_setBoom_17 (by decide) ?_
      refine vx_ret ?_
      exact W.iret (v := (1 : Int32)) hx hb hr (fun t h9 hW => ⟨⟨1, ((c0, of) : CS × (Nat → Int64)), rfl, Or.inr (Or.inl ⟨rfl, hXE, rfl⟩), by rw [h9]; exact hP, hD⟩, hS.F h9⟩) hS.2.2 dL_setBoom_18
    · refine vx_catch (name := nIS) hown ((tableOf [(0, 12, 15, 15), (0, 12, 19, 31)]).take 1) ((tableOf [(0, 12, 15, 15), (0, 12, 19, 31)]).get ⟨1, by decide⟩) ((tableOf [(0, 12, 15, 15), (0, 12, 19, 31)]).drop 2) (by rw [htab]; rfl) (fun z hz => Or.inr (by rcases List.mem_singleton.mp hz with rfl; exact ⟨(by decide : (15 : Nat) ≠ 0), nIA, w_0, he.exc.2.2.2⟩)) (by decide) (by decide) w_1 (va_Nw.use rfl (he.exc.2.1 _ (by decide))) hce hcv hcl ?_
      refine lv_astore (lv' := [(5, .ref q9), (0, .ref qa), (1, .int p0), (2, .int p1), (3, .int p2), (4, .ref qo)]) hx hb dL_setBoom_19 hl (by decide) rfl (fun ls hl => ?_)
      refine lv_iconst (v := 2) hx hb dL_setBoom_21 (by decide) ?_
      refine vx_ret ?_
      exact W.iret (v := (2 : Int32)) hx hb hr (fun t h9 hW => ⟨⟨2, ((c0, of) : CS × (Nat → Int64)), rfl, Or.inr (Or.inr ⟨rfl, hXE, rfl⟩), by rw [h9]; exact hP, hD⟩, hS.F h9⟩) hS.2.2 dL_setBoom_22
  · refine lv_i2l hx hb dL_setBoom_10 rfl ?_
    refine va_last hx hb hK hP hD hS 0 2 rfl rfl (vp_in_nI (n := 0) (by decide) (by decide)) dL_setBoom_11 (fun H locs hP hD hS => ?_)
    refine lv_goto (tgt := 23) hx hb dL_setBoom_12 (by decide) ?_
    refine lv_iconst (v := 0) hx hb dL_setBoom_23 (by decide) ?_
    refine vx_ret ?_
    exact W.iret (v := (0 : Int32)) hx hb hr (fun t h9 hW => ⟨⟨0, ((u, vp_updL of (0 : Int32).toNatClampNeg r.toInt64) : CS × (Nat → Int64)), rfl, Or.inl ⟨rfl, r, hw, rfl⟩, by rw [h9]; exact hP, hD⟩, hS.F h9⟩) hS.2.2 dL_setBoom_24
abbrev wqL_wind : List Cond := Cond.codeWith yL_wind cL_wind 4 (some .int) [(0, 9, 12, 15)] :: wB
set_option maxHeartbeats 1000000 in
set_option maxRecDepth 100000 in
theorem HL_wind (l : Launch) (dC : Nat → ClassId) (dI : Nat → Nat → Nat) (cyI cyS cyJ : ClassId) (qa qo : Nat) (fs : List Value) (w1 : CS → va_W) (c0 : CS) (hq : (w1 c0)[0]? = some (qa, .inr (8, fs))) (P0 : Int32 → CS → Prop) (XE : String → Prop) (of : Nat → Int64) (p0 : Int32)
    (hM : ∀ sz, vx_Met l yX8_wind wqX8_wind ({ frames := 7, cells := 16, slots := 266, locals := 131 } : Room) (va_Pc [.ref qa, .int p0] (pC (dC, dI) (w1 c0) [(cyI, .int), (cyS, .object RX5)] eX sz)) (va_Qi P0 (fun (u : CS) t => va_P (dC, dI) vwCl (w1 u) t.heap ∧ va_D (va_A (w1 c0) sz) (w1 u)) (va_A (w1 c0) sz)) (vx_X (fun _ : Unit => True) (fun E _ _ => XE E) aF) 16 266 (va_A (w1 c0) sz))
    (hX : ∀ E, XE E → E = nIA) (sz : Nat) :
    vx_Met l yL_wind wqL_wind ({ frames := 8, cells := 16, slots := 266, locals := 152 } : Room) (va_Pc [.ref qa, .int p0, .ref qo] (pC (dC, dI) ((qo, .inl (cyJ, 1, .inr (.inl of))) :: w1 c0) [(cyI, .int), (cyS, .object RX5), (cyJ, .long)] eX sz)) (va_Qi (fun r (u : CS × (Nat → Int64)) => (r = 0 ∧ ∃ v, P0 v u.1 ∧ u.2 0 = v.toInt64) ∨ (r = 1 ∧ XE nIA ∧ u.1 = c0)) (fun (u : CS × (Nat → Int64)) t => va_P (dC, dI) vwCl ((qo, .inl (cyJ, 1, .inr (.inl u.2))) :: w1 u.1) t.heap ∧ va_D (va_A ((qo, .inl (cyJ, 1, .inr (.inl of))) :: w1 c0) sz) ((qo, .inl (cyJ, 1, .inr (.inl u.2))) :: w1 u.1)) (va_A ((qo, .inl (cyJ, 1, .inr (.inl of))) :: w1 c0) sz)) (vx_X (fun _ : Unit => False) (fun _ _ _ => True) aF) 16 266 (va_A ((qo, .inl (cyJ, 1, .inr (.inl of))) :: w1 c0) sz) := by
  refine vx_ofWH (cc := cL_wind) (maxL := 4) (ret := (some .int)) (by decide) rfl ?_
  intro p e s m args below meth c s₁ B9 hml hv
  obtain ⟨rfl, hsz, hP, hK, hD0, he⟩ := hv
  have hx := B9.exec
  have hb := B9.bytes
  have hr := B9.returns
  have hts := atoms_spec (ws := wqL_wind) B9.pre
  have hown : s.vm.findClass RL = some m.cls := findClass_of_methodNamed B9.named
  have w_0 := hts (Cond.classLink RL 15 "java/lang/IllegalArgumentException") (List.mem_cons_of_mem _ b_104)
  subst hsz
  have hD := hD0.self (sz := s.heap.size)
  generalize hAe : va_A ((qo, .inl (cyJ, 1, .inr (.inl of))) :: w1 c0) s.heap.size = A at hD he ⊢
  have hA : ∀ q : Nat, s.heap.size ≤ q → A q := fun q h => by rw [← hAe]; exact Or.inr h
  have hS : va_S A s.heap s.heap [] := va_S.rf
  have hl := lv_entry ([.ref qa, .int p0, .ref qo] : List Value) (n := 4) (Nat.le_of_ble_eq_true rfl)
  rw [lg_entry_eq]
  generalize (lg_sl ([.ref qa, .int p0, .ref qo] : List Value) ++ List.replicate (4 - (lg_sl ([.ref qa, .int p0, .ref qo] : List Value)).length) Slot.unset).toArray = ls at hl ⊢
  have hl : lv_has ls 4 [(0, .ref qa), (1, .int p0), (2, .ref qo)] := hl
  refine lv_aload_n hx hb dL_wind_0 rfl (lv_at hl 2 rfl) ?_
  refine lv_iconst (v := 0) hx hb dL_wind_1 (by decide) ?_
  refine lv_aload_n hx hb dL_wind_2 rfl (lv_at hl 0 rfl) ?_
  refine lv_iload_n hx hb dL_wind_3 rfl (lv_at hl 1 rfl) ?_
  have hPg : va_P (dC, dI) vwCl (w1 c0) s.heap := xt_P.mpr fun q hq => xt_P.mp hP q (List.mem_cons_of_mem _ hq)
  have hDg : va_D A (w1 c0) := xt_D.mpr ⟨(List.nodup_cons.mp (by rw [← List.map_cons (f := fun q : Nat × va_E => q.1)]; exact (xt_D.mp hD).1)).2, fun q hq => (xt_D.mp hD).2 q (List.mem_cons_of_mem _ hq)⟩
  refine hx_call (XE := XE) (vx_runV (As := [.int p0]) (rest := [.int (0 : Int32), .ref qo]) ⟨hx, hb, hml, hown, hts⟩ (hM s.heap.size) (cwV 1 hts (gBV b_406 b_407 b_408 b_2 b_409) rfl rfl rfl (by decide +kernel) ⟨Nat.le_of_ble_eq_true rfl, Nat.le_of_ble_eq_true rfl⟩) (prm_v eX_ok he hS hPg hDg (hK.sub (tys' := [(cyI, .int), (cyS, .object RX5)]) [0, 1] rfl) (fun q hq => by rcases hq with ⟨k, e9, h9⟩ | h9; exact (xt_D.mp hD).2 (q, e9) (List.mem_cons_of_mem _ (List.mem_of_getElem? h9)); exact hA q h9) 0 hq rfl rfl) rfl rfl hl.1 rfl (lv_room (Nat.le_of_ble_eq_true rfl)) dL_wind_4 ⟨Nat.le_of_ble_eq_true rfl, Nat.le_of_ble_eq_true rfl⟩) hP hD hS hA (fun E ce q9 H locs hXE hP hS hce hcv hcl => ?_) (fun r u H locs hw hP hD hS => ?_)
  · have htab : c.exceptionTable.toList = tableOf [(0, 9, 12, 15)] := vx_table (x := yL_wind) B9 (hts _ List.mem_cons_self)
    have hE := hX E hXE
    subst hE
    refine vx_catch (name := nIA) hown ((tableOf [(0, 9, 12, 15)]).take 0) ((tableOf [(0, 9, 12, 15)]).get ⟨0, by decide⟩) ((tableOf [(0, 9, 12, 15)]).drop 1) (by rw [htab]; rfl) (fun z hz => by cases hz) (by decide) (by decide) w_0 (va_Nw.use rfl (he.exc.2.1 _ (by decide))) hce hcv hcl ?_
    refine lv_astore_n (lv' := [(3, .ref q9), (0, .ref qa), (1, .int p0), (2, .ref qo)]) hx hb dL_wind_12 rfl hl (by decide) rfl (fun ls hl => ?_)
    refine lv_iconst (v := 1) hx hb dL_wind_13 (by decide) ?_
    refine vx_ret ?_
    exact W.iret (v := (1 : Int32)) hx hb hr (fun t h9 hW => ⟨⟨1, ((c0, of) : CS × (Nat → Int64)), rfl, Or.inr ⟨rfl, hXE, rfl⟩, by rw [h9]; exact hP, hD⟩, hS.F h9⟩) hS.2.2 dL_wind_14
  · refine lv_i2l hx hb dL_wind_7 rfl ?_
    refine va_last hx hb hK hP hD hS 0 2 rfl rfl (vp_in_nI (n := 0) (by decide) (by decide)) dL_wind_8 (fun H locs hP hD hS => ?_)
    refine lv_goto (tgt := 15) hx hb dL_wind_9 (by decide) ?_
    refine lv_iconst (v := 0) hx hb dL_wind_15 (by decide) ?_
    refine vx_ret ?_
    exact W.iret (v := (0 : Int32)) hx hb hr (fun t h9 hW => ⟨⟨0, ((u, vp_updL of (0 : Int32).toNatClampNeg r.toInt64) : CS × (Nat → Int64)), rfl, Or.inl ⟨rfl, r, hw, rfl⟩, by rw [h9]; exact hP, hD⟩, hS.F h9⟩) hS.2.2 dL_wind_16
abbrev wqL_attach : List Cond := Cond.codeWith yL_attach cL_attach 4 (some .int) [(0, 9, 12, 15), (0, 9, 15, 31)] :: wB
set_option maxHeartbeats 1000000 in
set_option maxRecDepth 100000 in
theorem HL_attach (l : Launch) (dC : Nat → ClassId) (dI : Nat → Nat → Nat) (cyI cyS cyJ : ClassId) (qa qo : Nat) (fs : List Value) (w1 : CS → va_W) (c0 : CS) (hq : (w1 c0)[0]? = some (qa, .inr (8, fs))) (P0 : Int32 → CS → Prop) (XE : String → Prop) (of : Nat → Int64) (p0 : Int32)
    (hM : ∀ sz, vx_Met l yX8_attach wqX8_attach ({ frames := 7, cells := 17, slots := 272, locals := 131 } : Room) (va_Pc [.ref qa, .int p0] (pC (dC, dI) (w1 c0) [(cyI, .int), (cyS, .object RX5)] eX sz)) (va_Qi P0 (fun (u : CS) t => va_P (dC, dI) vwCl (w1 u) t.heap ∧ va_D (va_A (w1 c0) sz) (w1 u)) (va_A (w1 c0) sz)) (vx_X (fun _ : Unit => True) (fun E _ _ => XE E) aF) 17 272 (va_A (w1 c0) sz))
    (hX : ∀ E, XE E → E = nIA ∨ E = nIS) (sz : Nat) :
    vx_Met l yL_attach wqL_attach ({ frames := 8, cells := 17, slots := 272, locals := 153 } : Room) (va_Pc [.ref qa, .int p0, .ref qo] (pC (dC, dI) ((qo, .inl (cyJ, 1, .inr (.inl of))) :: w1 c0) [(cyI, .int), (cyS, .object RX5), (cyJ, .long)] eX sz)) (va_Qi (fun r (u : CS × (Nat → Int64)) => (r = 0 ∧ ∃ v, P0 v u.1 ∧ u.2 0 = v.toInt64) ∨ (r = 1 ∧ XE nIA ∧ u.1 = c0) ∨ (r = 2 ∧ XE nIS ∧ u.1 = c0)) (fun (u : CS × (Nat → Int64)) t => va_P (dC, dI) vwCl ((qo, .inl (cyJ, 1, .inr (.inl u.2))) :: w1 u.1) t.heap ∧ va_D (va_A ((qo, .inl (cyJ, 1, .inr (.inl of))) :: w1 c0) sz) ((qo, .inl (cyJ, 1, .inr (.inl u.2))) :: w1 u.1)) (va_A ((qo, .inl (cyJ, 1, .inr (.inl of))) :: w1 c0) sz)) (vx_X (fun _ : Unit => False) (fun _ _ _ => True) aF) 17 272 (va_A ((qo, .inl (cyJ, 1, .inr (.inl of))) :: w1 c0) sz) := by
  refine vx_ofWH (cc := cL_attach) (maxL := 4) (ret := (some .int)) (by decide) rfl ?_
  intro p e s m args below meth c s₁ B9 hml hv
  obtain ⟨rfl, hsz, hP, hK, hD0, he⟩ := hv
  have hx := B9.exec
  have hb := B9.bytes
  have hr := B9.returns
  have hts := atoms_spec (ws := wqL_attach) B9.pre
  have hown : s.vm.findClass RL = some m.cls := findClass_of_methodNamed B9.named
  have w_0 := hts (Cond.classLink RL 15 "java/lang/IllegalArgumentException") (List.mem_cons_of_mem _ b_104)
  have w_1 := hts (Cond.classLink RL 31 "java/lang/IllegalStateException") (List.mem_cons_of_mem _ b_292)
  subst hsz
  have hD := hD0.self (sz := s.heap.size)
  generalize hAe : va_A ((qo, .inl (cyJ, 1, .inr (.inl of))) :: w1 c0) s.heap.size = A at hD he ⊢
  have hA : ∀ q : Nat, s.heap.size ≤ q → A q := fun q h => by rw [← hAe]; exact Or.inr h
  have hS : va_S A s.heap s.heap [] := va_S.rf
  have hl := lv_entry ([.ref qa, .int p0, .ref qo] : List Value) (n := 4) (Nat.le_of_ble_eq_true rfl)
  rw [lg_entry_eq]
  generalize (lg_sl ([.ref qa, .int p0, .ref qo] : List Value) ++ List.replicate (4 - (lg_sl ([.ref qa, .int p0, .ref qo] : List Value)).length) Slot.unset).toArray = ls at hl ⊢
  have hl : lv_has ls 4 [(0, .ref qa), (1, .int p0), (2, .ref qo)] := hl
  refine lv_aload_n hx hb dL_attach_0 rfl (lv_at hl 2 rfl) ?_
  refine lv_iconst (v := 0) hx hb dL_attach_1 (by decide) ?_
  refine lv_aload_n hx hb dL_attach_2 rfl (lv_at hl 0 rfl) ?_
  refine lv_iload_n hx hb dL_attach_3 rfl (lv_at hl 1 rfl) ?_
  have hPg : va_P (dC, dI) vwCl (w1 c0) s.heap := xt_P.mpr fun q hq => xt_P.mp hP q (List.mem_cons_of_mem _ hq)
  have hDg : va_D A (w1 c0) := xt_D.mpr ⟨(List.nodup_cons.mp (by rw [← List.map_cons (f := fun q : Nat × va_E => q.1)]; exact (xt_D.mp hD).1)).2, fun q hq => (xt_D.mp hD).2 q (List.mem_cons_of_mem _ hq)⟩
  refine hx_call (XE := XE) (vx_runV (As := [.int p0]) (rest := [.int (0 : Int32), .ref qo]) ⟨hx, hb, hml, hown, hts⟩ (hM s.heap.size) (cwV 1 hts (gBV b_429 b_430 b_431 b_2 b_432) rfl rfl rfl (by decide +kernel) ⟨Nat.le_of_ble_eq_true rfl, Nat.le_of_ble_eq_true rfl⟩) (prm_v eX_ok he hS hPg hDg (hK.sub (tys' := [(cyI, .int), (cyS, .object RX5)]) [0, 1] rfl) (fun q hq => by rcases hq with ⟨k, e9, h9⟩ | h9; exact (xt_D.mp hD).2 (q, e9) (List.mem_cons_of_mem _ (List.mem_of_getElem? h9)); exact hA q h9) 0 hq rfl rfl) rfl rfl hl.1 rfl (lv_room (Nat.le_of_ble_eq_true rfl)) dL_attach_4 ⟨Nat.le_of_ble_eq_true rfl, Nat.le_of_ble_eq_true rfl⟩) hP hD hS hA (fun E ce q9 H locs hXE hP hS hce hcv hcl => ?_) (fun r u H locs hw hP hD hS => ?_)
  · have htab : c.exceptionTable.toList = tableOf [(0, 9, 12, 15), (0, 9, 15, 31)] := vx_table (x := yL_attach) B9 (hts _ List.mem_cons_self)
    rcases hX E hXE with rfl | rfl
    · refine vx_catch (name := nIA) hown ((tableOf [(0, 9, 12, 15), (0, 9, 15, 31)]).take 0) ((tableOf [(0, 9, 12, 15), (0, 9, 15, 31)]).get ⟨0, by decide⟩) ((tableOf [(0, 9, 12, 15), (0, 9, 15, 31)]).drop 1) (by rw [htab]; rfl) (fun z hz => by cases hz) (by decide) (by decide) w_0 (va_Nw.use rfl (he.exc.2.1 _ (by decide))) hce hcv hcl ?_
      refine lv_astore_n (lv' := [(3, .ref q9), (0, .ref qa), (1, .int p0), (2, .ref qo)]) hx hb dL_attach_12 rfl hl (by decide) rfl (fun ls hl => ?_)
      refine lv_iconst (v := 1) hx hb dL_attach_13 (by decide) ?_
      refine vx_ret ?_
      exact W.iret (v := (1 : Int32)) hx hb hr (fun t h9 hW => ⟨⟨1, ((c0, of) : CS × (Nat → Int64)), rfl, Or.inr (Or.inl ⟨rfl, hXE, rfl⟩), by rw [h9]; exact hP, hD⟩, hS.F h9⟩) hS.2.2 dL_attach_14
    · refine vx_catch (name := nIS) hown ((tableOf [(0, 9, 12, 15), (0, 9, 15, 31)]).take 1) ((tableOf [(0, 9, 12, 15), (0, 9, 15, 31)]).get ⟨1, by decide⟩) ((tableOf [(0, 9, 12, 15), (0, 9, 15, 31)]).drop 2) (by rw [htab]; rfl) (fun z hz => Or.inr (by rcases List.mem_singleton.mp hz with rfl; exact ⟨(by decide : (15 : Nat) ≠ 0), nIA, w_0, he.exc.2.2.2⟩)) (by decide) (by decide) w_1 (va_Nw.use rfl (he.exc.2.1 _ (by decide))) hce hcv hcl ?_
      refine lv_astore_n (lv' := [(3, .ref q9), (0, .ref qa), (1, .int p0), (2, .ref qo)]) hx hb dL_attach_15 rfl hl (by decide) rfl (fun ls hl => ?_)
      refine lv_iconst (v := 2) hx hb dL_attach_16 (by decide) ?_
      refine vx_ret ?_
      exact W.iret (v := (2 : Int32)) hx hb hr (fun t h9 hW => ⟨⟨2, ((c0, of) : CS × (Nat → Int64)), rfl, Or.inr (Or.inr ⟨rfl, hXE, rfl⟩), by rw [h9]; exact hP, hD⟩, hS.F h9⟩) hS.2.2 dL_attach_17
  · refine lv_i2l hx hb dL_attach_7 rfl ?_
    refine va_last hx hb hK hP hD hS 0 2 rfl rfl (vp_in_nI (n := 0) (by decide) (by decide)) dL_attach_8 (fun H locs hP hD hS => ?_)
    refine lv_goto (tgt := 18) hx hb dL_attach_9 (by decide) ?_
    refine lv_iconst (v := 0) hx hb dL_attach_18 (by decide) ?_
    refine vx_ret ?_
    exact W.iret (v := (0 : Int32)) hx hb hr (fun t h9 hW => ⟨⟨0, ((u, vp_updL of (0 : Int32).toNatClampNeg r.toInt64) : CS × (Nat → Int64)), rfl, Or.inl ⟨rfl, r, hw, rfl⟩, by rw [h9]; exact hP, hD⟩, hS.F h9⟩) hS.2.2 dL_attach_19
abbrev wqL_setTare : List Cond := Cond.codeWith yL_setTare cL_setTare 4 (some .int) [(0, 9, 12, 15)] :: wB
set_option maxHeartbeats 1000000 in
set_option maxRecDepth 100000 in
theorem HL_setTare (l : Launch) (dC : Nat → ClassId) (dI : Nat → Nat → Nat) (cyI cyS cyJ : ClassId) (qa qo : Nat) (fs : List Value) (w1 : CS → va_W) (c0 : CS) (hq : (w1 c0)[0]? = some (qa, .inr (8, fs))) (P0 : Int32 → CS → Prop) (XE : String → Prop) (of : Nat → Int64) (p0 : Int32)
    (hM : ∀ sz, vx_Met l yX8_setTare wqX8_setTare ({ frames := 7, cells := 16, slots := 266, locals := 131 } : Room) (va_Pc [.ref qa, .int p0] (pC (dC, dI) (w1 c0) [(cyI, .int), (cyS, .object RX5)] eX sz)) (va_Qi P0 (fun (u : CS) t => va_P (dC, dI) vwCl (w1 u) t.heap ∧ va_D (va_A (w1 c0) sz) (w1 u)) (va_A (w1 c0) sz)) (vx_X (fun _ : Unit => True) (fun E _ _ => XE E) aF) 16 266 (va_A (w1 c0) sz))
    (hX : ∀ E, XE E → E = nIA) (sz : Nat) :
    vx_Met l yL_setTare wqL_setTare ({ frames := 8, cells := 16, slots := 266, locals := 153 } : Room) (va_Pc [.ref qa, .int p0, .ref qo] (pC (dC, dI) ((qo, .inl (cyJ, 1, .inr (.inl of))) :: w1 c0) [(cyI, .int), (cyS, .object RX5), (cyJ, .long)] eX sz)) (va_Qi (fun r (u : CS × (Nat → Int64)) => (r = 0 ∧ ∃ v, P0 v u.1 ∧ u.2 0 = v.toInt64) ∨ (r = 1 ∧ XE nIA ∧ u.1 = c0)) (fun (u : CS × (Nat → Int64)) t => va_P (dC, dI) vwCl ((qo, .inl (cyJ, 1, .inr (.inl u.2))) :: w1 u.1) t.heap ∧ va_D (va_A ((qo, .inl (cyJ, 1, .inr (.inl of))) :: w1 c0) sz) ((qo, .inl (cyJ, 1, .inr (.inl u.2))) :: w1 u.1)) (va_A ((qo, .inl (cyJ, 1, .inr (.inl of))) :: w1 c0) sz)) (vx_X (fun _ : Unit => False) (fun _ _ _ => True) aF) 16 266 (va_A ((qo, .inl (cyJ, 1, .inr (.inl of))) :: w1 c0) sz) := by
  refine vx_ofWH (cc := cL_setTare) (maxL := 4) (ret := (some .int)) (by decide) rfl ?_
  intro p e s m args below meth c s₁ B9 hml hv
  obtain ⟨rfl, hsz, hP, hK, hD0, he⟩ := hv
  have hx := B9.exec
  have hb := B9.bytes
  have hr := B9.returns
  have hts := atoms_spec (ws := wqL_setTare) B9.pre
  have hown : s.vm.findClass RL = some m.cls := findClass_of_methodNamed B9.named
  have w_0 := hts (Cond.classLink RL 15 "java/lang/IllegalArgumentException") (List.mem_cons_of_mem _ b_104)
  subst hsz
  have hD := hD0.self (sz := s.heap.size)
  generalize hAe : va_A ((qo, .inl (cyJ, 1, .inr (.inl of))) :: w1 c0) s.heap.size = A at hD he ⊢
  have hA : ∀ q : Nat, s.heap.size ≤ q → A q := fun q h => by rw [← hAe]; exact Or.inr h
  have hS : va_S A s.heap s.heap [] := va_S.rf
  have hl := lv_entry ([.ref qa, .int p0, .ref qo] : List Value) (n := 4) (Nat.le_of_ble_eq_true rfl)
  rw [lg_entry_eq]
  generalize (lg_sl ([.ref qa, .int p0, .ref qo] : List Value) ++ List.replicate (4 - (lg_sl ([.ref qa, .int p0, .ref qo] : List Value)).length) Slot.unset).toArray = ls at hl ⊢
  have hl : lv_has ls 4 [(0, .ref qa), (1, .int p0), (2, .ref qo)] := hl
  refine lv_aload_n hx hb dL_setTare_0 rfl (lv_at hl 2 rfl) ?_
  refine lv_iconst (v := 0) hx hb dL_setTare_1 (by decide) ?_
  refine lv_aload_n hx hb dL_setTare_2 rfl (lv_at hl 0 rfl) ?_
  refine lv_iload_n hx hb dL_setTare_3 rfl (lv_at hl 1 rfl) ?_
  have hPg : va_P (dC, dI) vwCl (w1 c0) s.heap := xt_P.mpr fun q hq => xt_P.mp hP q (List.mem_cons_of_mem _ hq)
  have hDg : va_D A (w1 c0) := xt_D.mpr ⟨(List.nodup_cons.mp (by rw [← List.map_cons (f := fun q : Nat × va_E => q.1)]; exact (xt_D.mp hD).1)).2, fun q hq => (xt_D.mp hD).2 q (List.mem_cons_of_mem _ hq)⟩
  refine hx_call (XE := XE) (vx_runV (As := [.int p0]) (rest := [.int (0 : Int32), .ref qo]) ⟨hx, hb, hml, hown, hts⟩ (hM s.heap.size) (cwV 1 hts (gBV b_442 b_443 b_444 b_2 b_445) rfl rfl rfl (by decide +kernel) ⟨Nat.le_of_ble_eq_true rfl, Nat.le_of_ble_eq_true rfl⟩) (prm_v eX_ok he hS hPg hDg (hK.sub (tys' := [(cyI, .int), (cyS, .object RX5)]) [0, 1] rfl) (fun q hq => by rcases hq with ⟨k, e9, h9⟩ | h9; exact (xt_D.mp hD).2 (q, e9) (List.mem_cons_of_mem _ (List.mem_of_getElem? h9)); exact hA q h9) 0 hq rfl rfl) rfl rfl hl.1 rfl (lv_room (Nat.le_of_ble_eq_true rfl)) dL_setTare_4 ⟨Nat.le_of_ble_eq_true rfl, Nat.le_of_ble_eq_true rfl⟩) hP hD hS hA (fun E ce q9 H locs hXE hP hS hce hcv hcl => ?_) (fun r u H locs hw hP hD hS => ?_)
  · have htab : c.exceptionTable.toList = tableOf [(0, 9, 12, 15)] := vx_table (x := yL_setTare) B9 (hts _ List.mem_cons_self)
    have hE := hX E hXE
    subst hE
    refine vx_catch (name := nIA) hown ((tableOf [(0, 9, 12, 15)]).take 0) ((tableOf [(0, 9, 12, 15)]).get ⟨0, by decide⟩) ((tableOf [(0, 9, 12, 15)]).drop 1) (by rw [htab]; rfl) (fun z hz => by cases hz) (by decide) (by decide) w_0 (va_Nw.use rfl (he.exc.2.1 _ (by decide))) hce hcv hcl ?_
    refine lv_astore_n (lv' := [(3, .ref q9), (0, .ref qa), (1, .int p0), (2, .ref qo)]) hx hb dL_setTare_12 rfl hl (by decide) rfl (fun ls hl => ?_)
    refine lv_iconst (v := 1) hx hb dL_setTare_13 (by decide) ?_
    refine vx_ret ?_
    exact W.iret (v := (1 : Int32)) hx hb hr (fun t h9 hW => ⟨⟨1, ((c0, of) : CS × (Nat → Int64)), rfl, Or.inr ⟨rfl, hXE, rfl⟩, by rw [h9]; exact hP, hD⟩, hS.F h9⟩) hS.2.2 dL_setTare_14
  · refine lv_i2l hx hb dL_setTare_7 rfl ?_
    refine va_last hx hb hK hP hD hS 0 2 rfl rfl (vp_in_nI (n := 0) (by decide) (by decide)) dL_setTare_8 (fun H locs hP hD hS => ?_)
    refine lv_goto (tgt := 15) hx hb dL_setTare_9 (by decide) ?_
    refine lv_iconst (v := 0) hx hb dL_setTare_15 (by decide) ?_
    refine vx_ret ?_
    exact W.iret (v := (0 : Int32)) hx hb hr (fun t h9 hW => ⟨⟨0, ((u, vp_updL of (0 : Int32).toNatClampNeg r.toInt64) : CS × (Nat → Int64)), rfl, Or.inl ⟨rfl, r, hw, rfl⟩, by rw [h9]; exact hP, hD⟩, hS.F h9⟩) hS.2.2 dL_setTare_16
abbrev wqL_bypass : List Cond := Cond.codeWith yL_bypass cL_bypass 4 (some .int) [(0, 9, 12, 15)] :: wB
set_option maxHeartbeats 1000000 in
set_option maxRecDepth 100000 in
theorem HL_bypass (l : Launch) (dC : Nat → ClassId) (dI : Nat → Nat → Nat) (cyI cyS cyJ : ClassId) (qa qo : Nat) (fs : List Value) (w1 : CS → va_W) (c0 : CS) (hq : (w1 c0)[0]? = some (qa, .inr (8, fs))) (P0 : Int32 → CS → Prop) (XE : String → Prop) (of : Nat → Int64) (p0 : Int32)
    (hM : ∀ sz, vx_Met l yX8_bypass wqX8_bypass ({ frames := 7, cells := 16, slots := 266, locals := 131 } : Room) (va_Pc [.ref qa, .int p0] (pC (dC, dI) (w1 c0) [(cyI, .int), (cyS, .object RX5)] eX sz)) (va_Qi P0 (fun (u : CS) t => va_P (dC, dI) vwCl (w1 u) t.heap ∧ va_D (va_A (w1 c0) sz) (w1 u)) (va_A (w1 c0) sz)) (vx_X (fun _ : Unit => True) (fun E _ _ => XE E) aF) 16 266 (va_A (w1 c0) sz))
    (hX : ∀ E, XE E → E = nIA) (sz : Nat) :
    vx_Met l yL_bypass wqL_bypass ({ frames := 8, cells := 16, slots := 266, locals := 153 } : Room) (va_Pc [.ref qa, .int p0, .ref qo] (pC (dC, dI) ((qo, .inl (cyJ, 1, .inr (.inl of))) :: w1 c0) [(cyI, .int), (cyS, .object RX5), (cyJ, .long)] eX sz)) (va_Qi (fun r (u : CS × (Nat → Int64)) => (r = 0 ∧ ∃ v, P0 v u.1 ∧ u.2 0 = v.toInt64) ∨ (r = 1 ∧ XE nIA ∧ u.1 = c0)) (fun (u : CS × (Nat → Int64)) t => va_P (dC, dI) vwCl ((qo, .inl (cyJ, 1, .inr (.inl u.2))) :: w1 u.1) t.heap ∧ va_D (va_A ((qo, .inl (cyJ, 1, .inr (.inl of))) :: w1 c0) sz) ((qo, .inl (cyJ, 1, .inr (.inl u.2))) :: w1 u.1)) (va_A ((qo, .inl (cyJ, 1, .inr (.inl of))) :: w1 c0) sz)) (vx_X (fun _ : Unit => False) (fun _ _ _ => True) aF) 16 266 (va_A ((qo, .inl (cyJ, 1, .inr (.inl of))) :: w1 c0) sz) := by
  refine vx_ofWH (cc := cL_bypass) (maxL := 4) (ret := (some .int)) (by decide) rfl ?_
  intro p e s m args below meth c s₁ B9 hml hv
  obtain ⟨rfl, hsz, hP, hK, hD0, he⟩ := hv
  have hx := B9.exec
  have hb := B9.bytes
  have hr := B9.returns
  have hts := atoms_spec (ws := wqL_bypass) B9.pre
  have hown : s.vm.findClass RL = some m.cls := findClass_of_methodNamed B9.named
  have w_0 := hts (Cond.classLink RL 15 "java/lang/IllegalArgumentException") (List.mem_cons_of_mem _ b_104)
  subst hsz
  have hD := hD0.self (sz := s.heap.size)
  generalize hAe : va_A ((qo, .inl (cyJ, 1, .inr (.inl of))) :: w1 c0) s.heap.size = A at hD he ⊢
  have hA : ∀ q : Nat, s.heap.size ≤ q → A q := fun q h => by rw [← hAe]; exact Or.inr h
  have hS : va_S A s.heap s.heap [] := va_S.rf
  have hl := lv_entry ([.ref qa, .int p0, .ref qo] : List Value) (n := 4) (Nat.le_of_ble_eq_true rfl)
  rw [lg_entry_eq]
  generalize (lg_sl ([.ref qa, .int p0, .ref qo] : List Value) ++ List.replicate (4 - (lg_sl ([.ref qa, .int p0, .ref qo] : List Value)).length) Slot.unset).toArray = ls at hl ⊢
  have hl : lv_has ls 4 [(0, .ref qa), (1, .int p0), (2, .ref qo)] := hl
  refine lv_aload_n hx hb dL_bypass_0 rfl (lv_at hl 2 rfl) ?_
  refine lv_iconst (v := 0) hx hb dL_bypass_1 (by decide) ?_
  refine lv_aload_n hx hb dL_bypass_2 rfl (lv_at hl 0 rfl) ?_
  refine lv_iload_n hx hb dL_bypass_3 rfl (lv_at hl 1 rfl) ?_
  have hPg : va_P (dC, dI) vwCl (w1 c0) s.heap := xt_P.mpr fun q hq => xt_P.mp hP q (List.mem_cons_of_mem _ hq)
  have hDg : va_D A (w1 c0) := xt_D.mpr ⟨(List.nodup_cons.mp (by rw [← List.map_cons (f := fun q : Nat × va_E => q.1)]; exact (xt_D.mp hD).1)).2, fun q hq => (xt_D.mp hD).2 q (List.mem_cons_of_mem _ hq)⟩
  refine hx_call (XE := XE) (vx_runV (As := [.int p0]) (rest := [.int (0 : Int32), .ref qo]) ⟨hx, hb, hml, hown, hts⟩ (hM s.heap.size) (cwV 1 hts (gBV b_454 b_455 b_456 b_2 b_457) rfl rfl rfl (by decide +kernel) ⟨Nat.le_of_ble_eq_true rfl, Nat.le_of_ble_eq_true rfl⟩) (prm_v eX_ok he hS hPg hDg (hK.sub (tys' := [(cyI, .int), (cyS, .object RX5)]) [0, 1] rfl) (fun q hq => by rcases hq with ⟨k, e9, h9⟩ | h9; exact (xt_D.mp hD).2 (q, e9) (List.mem_cons_of_mem _ (List.mem_of_getElem? h9)); exact hA q h9) 0 hq rfl rfl) rfl rfl hl.1 rfl (lv_room (Nat.le_of_ble_eq_true rfl)) dL_bypass_4 ⟨Nat.le_of_ble_eq_true rfl, Nat.le_of_ble_eq_true rfl⟩) hP hD hS hA (fun E ce q9 H locs hXE hP hS hce hcv hcl => ?_) (fun r u H locs hw hP hD hS => ?_)
  · have htab : c.exceptionTable.toList = tableOf [(0, 9, 12, 15)] := vx_table (x := yL_bypass) B9 (hts _ List.mem_cons_self)
    have hE := hX E hXE
    subst hE
    refine vx_catch (name := nIA) hown ((tableOf [(0, 9, 12, 15)]).take 0) ((tableOf [(0, 9, 12, 15)]).get ⟨0, by decide⟩) ((tableOf [(0, 9, 12, 15)]).drop 1) (by rw [htab]; rfl) (fun z hz => by cases hz) (by decide) (by decide) w_0 (va_Nw.use rfl (he.exc.2.1 _ (by decide))) hce hcv hcl ?_
    refine lv_astore_n (lv' := [(3, .ref q9), (0, .ref qa), (1, .int p0), (2, .ref qo)]) hx hb dL_bypass_12 rfl hl (by decide) rfl (fun ls hl => ?_)
    refine lv_iconst (v := 1) hx hb dL_bypass_13 (by decide) ?_
    refine vx_ret ?_
    exact W.iret (v := (1 : Int32)) hx hb hr (fun t h9 hW => ⟨⟨1, ((c0, of) : CS × (Nat → Int64)), rfl, Or.inr ⟨rfl, hXE, rfl⟩, by rw [h9]; exact hP, hD⟩, hS.F h9⟩) hS.2.2 dL_bypass_14
  · refine lv_i2l hx hb dL_bypass_7 rfl ?_
    refine va_last hx hb hK hP hD hS 0 2 rfl rfl (vp_in_nI (n := 0) (by decide) (by decide)) dL_bypass_8 (fun H locs hP hD hS => ?_)
    refine lv_goto (tgt := 15) hx hb dL_bypass_9 (by decide) ?_
    refine lv_iconst (v := 0) hx hb dL_bypass_15 (by decide) ?_
    refine vx_ret ?_
    exact W.iret (v := (0 : Int32)) hx hb hr (fun t h9 hW => ⟨⟨0, ((u, vp_updL of (0 : Int32).toNatClampNeg r.toInt64) : CS × (Nat → Int64)), rfl, Or.inl ⟨rfl, r, hw, rfl⟩, by rw [h9]; exact hP, hD⟩, hS.F h9⟩) hS.2.2 dL_bypass_16
abbrev wqL_run : List Cond := Cond.codeWith yL_run cL_run 5 (some .int) [(0, 10, 13, 15)] :: wB
set_option maxHeartbeats 1000000 in
set_option maxRecDepth 100000 in
theorem HL_run (l : Launch) (dC : Nat → ClassId) (dI : Nat → Nat → Nat) (cyI cyS cyJ : ClassId) (qa qo : Nat) (fs : List Value) (w1 : CS → va_W) (c0 : CS) (hq : (w1 c0)[0]? = some (qa, .inr (8, fs))) (P0 : Int32 → CS → Prop) (XE : String → Prop) (of : Nat → Int64) (p0 : Int32) (p1 : Int32)
    (hM : ∀ sz, vx_Met l yX8_run wqX8_run ({ frames := 7, cells := 18, slots := 278, locals := 152 } : Room) (va_Pc [.ref qa, .int p0, .int p1] (pC (dC, dI) (w1 c0) [(cyI, .int), (cyS, .object RX5)] eX sz)) (va_Qi P0 (fun (u : CS) t => va_P (dC, dI) vwCl (w1 u) t.heap ∧ va_D (va_A (w1 c0) sz) (w1 u)) (va_A (w1 c0) sz)) (vx_X (fun _ : Unit => True) (fun E _ _ => XE E) aF) 18 278 (va_A (w1 c0) sz))
    (hX : ∀ E, XE E → E = nIA) (sz : Nat) :
    vx_Met l yL_run wqL_run ({ frames := 8, cells := 18, slots := 278, locals := 176 } : Room) (va_Pc [.ref qa, .int p0, .int p1, .ref qo] (pC (dC, dI) ((qo, .inl (cyJ, 1, .inr (.inl of))) :: w1 c0) [(cyI, .int), (cyS, .object RX5), (cyJ, .long)] eX sz)) (va_Qi (fun r (u : CS × (Nat → Int64)) => (r = 0 ∧ ∃ v, P0 v u.1 ∧ u.2 0 = v.toInt64) ∨ (r = 1 ∧ XE nIA ∧ u.1 = c0)) (fun (u : CS × (Nat → Int64)) t => va_P (dC, dI) vwCl ((qo, .inl (cyJ, 1, .inr (.inl u.2))) :: w1 u.1) t.heap ∧ va_D (va_A ((qo, .inl (cyJ, 1, .inr (.inl of))) :: w1 c0) sz) ((qo, .inl (cyJ, 1, .inr (.inl u.2))) :: w1 u.1)) (va_A ((qo, .inl (cyJ, 1, .inr (.inl of))) :: w1 c0) sz)) (vx_X (fun _ : Unit => False) (fun _ _ _ => True) aF) 18 278 (va_A ((qo, .inl (cyJ, 1, .inr (.inl of))) :: w1 c0) sz) := by
  refine vx_ofWH (cc := cL_run) (maxL := 5) (ret := (some .int)) (by decide) rfl ?_
  intro p e s m args below meth c s₁ B9 hml hv
  obtain ⟨rfl, hsz, hP, hK, hD0, he⟩ := hv
  have hx := B9.exec
  have hb := B9.bytes
  have hr := B9.returns
  have hts := atoms_spec (ws := wqL_run) B9.pre
  have hown : s.vm.findClass RL = some m.cls := findClass_of_methodNamed B9.named
  have w_0 := hts (Cond.classLink RL 15 "java/lang/IllegalArgumentException") (List.mem_cons_of_mem _ b_104)
  subst hsz
  have hD := hD0.self (sz := s.heap.size)
  generalize hAe : va_A ((qo, .inl (cyJ, 1, .inr (.inl of))) :: w1 c0) s.heap.size = A at hD he ⊢
  have hA : ∀ q : Nat, s.heap.size ≤ q → A q := fun q h => by rw [← hAe]; exact Or.inr h
  have hS : va_S A s.heap s.heap [] := va_S.rf
  have hl := lv_entry ([.ref qa, .int p0, .int p1, .ref qo] : List Value) (n := 5) (Nat.le_of_ble_eq_true rfl)
  rw [lg_entry_eq]
  generalize (lg_sl ([.ref qa, .int p0, .int p1, .ref qo] : List Value) ++ List.replicate (5 - (lg_sl ([.ref qa, .int p0, .int p1, .ref qo] : List Value)).length) Slot.unset).toArray = ls at hl ⊢
  have hl : lv_has ls 5 [(0, .ref qa), (1, .int p0), (2, .int p1), (3, .ref qo)] := hl
  refine lv_aload_n hx hb dL_run_0 rfl (lv_at hl 3 rfl) ?_
  refine lv_iconst (v := 0) hx hb dL_run_1 (by decide) ?_
  refine lv_aload_n hx hb dL_run_2 rfl (lv_at hl 0 rfl) ?_
  refine lv_iload_n hx hb dL_run_3 rfl (lv_at hl 1 rfl) ?_
  refine lv_iload_n hx hb dL_run_4 rfl (lv_at hl 2 rfl) ?_
  have hPg : va_P (dC, dI) vwCl (w1 c0) s.heap := xt_P.mpr fun q hq => xt_P.mp hP q (List.mem_cons_of_mem _ hq)
  have hDg : va_D A (w1 c0) := xt_D.mpr ⟨(List.nodup_cons.mp (by rw [← List.map_cons (f := fun q : Nat × va_E => q.1)]; exact (xt_D.mp hD).1)).2, fun q hq => (xt_D.mp hD).2 q (List.mem_cons_of_mem _ hq)⟩
  refine hx_call (XE := XE) (vx_runV (As := [.int p0, .int p1]) (rest := [.int (0 : Int32), .ref qo]) ⟨hx, hb, hml, hown, hts⟩ (hM s.heap.size) (cwV 2 hts (gBV b_466 b_467 b_468 b_2 b_469) rfl rfl rfl (by decide +kernel) ⟨Nat.le_of_ble_eq_true rfl, Nat.le_of_ble_eq_true rfl⟩) (prm_v eX_ok he hS hPg hDg (hK.sub (tys' := [(cyI, .int), (cyS, .object RX5)]) [0, 1] rfl) (fun q hq => by rcases hq with ⟨k, e9, h9⟩ | h9; exact (xt_D.mp hD).2 (q, e9) (List.mem_cons_of_mem _ (List.mem_of_getElem? h9)); exact hA q h9) 0 hq rfl rfl) rfl rfl hl.1 rfl (lv_room (Nat.le_of_ble_eq_true rfl)) dL_run_5 ⟨Nat.le_of_ble_eq_true rfl, Nat.le_of_ble_eq_true rfl⟩) hP hD hS hA (fun E ce q9 H locs hXE hP hS hce hcv hcl => ?_) (fun r u H locs hw hP hD hS => ?_)
  · have htab : c.exceptionTable.toList = tableOf [(0, 10, 13, 15)] := vx_table (x := yL_run) B9 (hts _ List.mem_cons_self)
    have hE := hX E hXE
    subst hE
    refine vx_catch (name := nIA) hown ((tableOf [(0, 10, 13, 15)]).take 0) ((tableOf [(0, 10, 13, 15)]).get ⟨0, by decide⟩) ((tableOf [(0, 10, 13, 15)]).drop 1) (by rw [htab]; rfl) (fun z hz => by cases hz) (by decide) (by decide) w_0 (va_Nw.use rfl (he.exc.2.1 _ (by decide))) hce hcv hcl ?_
    refine lv_astore (lv' := [(4, .ref q9), (0, .ref qa), (1, .int p0), (2, .int p1), (3, .ref qo)]) hx hb dL_run_13 hl (by decide) rfl (fun ls hl => ?_)
    refine lv_iconst (v := 1) hx hb dL_run_15 (by decide) ?_
    refine vx_ret ?_
    exact W.iret (v := (1 : Int32)) hx hb hr (fun t h9 hW => ⟨⟨1, ((c0, of) : CS × (Nat → Int64)), rfl, Or.inr ⟨rfl, hXE, rfl⟩, by rw [h9]; exact hP, hD⟩, hS.F h9⟩) hS.2.2 dL_run_16
  · refine lv_i2l hx hb dL_run_8 rfl ?_
    refine va_last hx hb hK hP hD hS 0 2 rfl rfl (vp_in_nI (n := 0) (by decide) (by decide)) dL_run_9 (fun H locs hP hD hS => ?_)
    refine lv_goto (tgt := 17) hx hb dL_run_10 (by decide) ?_
    refine lv_iconst (v := 0) hx hb dL_run_17 (by decide) ?_
    refine vx_ret ?_
    exact W.iret (v := (0 : Int32)) hx hb hr (fun t h9 hW => ⟨⟨0, ((u, vp_updL of (0 : Int32).toNatClampNeg r.toInt64) : CS × (Nat → Int64)), rfl, Or.inl ⟨rfl, r, hw, rfl⟩, by rw [h9]; exact hP, hD⟩, hS.F h9⟩) hS.2.2 dL_run_18
abbrev wqL_predicted : List Cond := Cond.codeWith yL_predicted cL_predicted 4 (some .int) [(0, 9, 12, 15)] :: wB
set_option maxHeartbeats 1000000 in
set_option maxRecDepth 100000 in
theorem HL_predicted (l : Launch) (dC : Nat → ClassId) (dI : Nat → Nat → Nat) (cyI cyS cyJ : ClassId) (qa qo : Nat) (fs : List Value) (w1 : CS → va_W) (c0 : CS) (hq : (w1 c0)[0]? = some (qa, .inr (8, fs))) (P0 : Int32 → CS → Prop) (XE : String → Prop) (of : Nat → Int64) (p0 : Int32)
    (hM : ∀ sz, vx_Met l yX8_predicted wqX8_predicted ({ frames := 7, cells := 1, slots := 6, locals := 104 } : Room) (va_Pc [.ref qa, .int p0] (pC (dC, dI) (w1 c0) [(cyI, .int), (cyS, .object RX5)] eX sz)) (va_Qi P0 (fun (u : CS) t => va_P (dC, dI) vwCl (w1 u) t.heap ∧ va_D (va_A (w1 c0) sz) (w1 u)) (va_A (w1 c0) sz)) (vx_X (fun _ : Unit => True) (fun E _ _ => XE E) aF) 1 6 (va_A (w1 c0) sz))
    (hX : ∀ E, XE E → E = nIA) (sz : Nat) :
    vx_Met l yL_predicted wqL_predicted ({ frames := 8, cells := 1, slots := 6, locals := 125 } : Room) (va_Pc [.ref qa, .int p0, .ref qo] (pC (dC, dI) ((qo, .inl (cyJ, 1, .inr (.inl of))) :: w1 c0) [(cyI, .int), (cyS, .object RX5), (cyJ, .long)] eX sz)) (va_Qi (fun r (u : CS × (Nat → Int64)) => (r = 0 ∧ ∃ v, P0 v u.1 ∧ u.2 0 = v.toInt64) ∨ (r = 1 ∧ XE nIA ∧ u.1 = c0)) (fun (u : CS × (Nat → Int64)) t => va_P (dC, dI) vwCl ((qo, .inl (cyJ, 1, .inr (.inl u.2))) :: w1 u.1) t.heap ∧ va_D (va_A ((qo, .inl (cyJ, 1, .inr (.inl of))) :: w1 c0) sz) ((qo, .inl (cyJ, 1, .inr (.inl u.2))) :: w1 u.1)) (va_A ((qo, .inl (cyJ, 1, .inr (.inl of))) :: w1 c0) sz)) (vx_X (fun _ : Unit => False) (fun _ _ _ => True) aF) 1 6 (va_A ((qo, .inl (cyJ, 1, .inr (.inl of))) :: w1 c0) sz) := by
  refine vx_ofWH (cc := cL_predicted) (maxL := 4) (ret := (some .int)) (by decide) rfl ?_
  intro p e s m args below meth c s₁ B9 hml hv
  obtain ⟨rfl, hsz, hP, hK, hD0, he⟩ := hv
  have hx := B9.exec
  have hb := B9.bytes
  have hr := B9.returns
  have hts := atoms_spec (ws := wqL_predicted) B9.pre
  have hown : s.vm.findClass RL = some m.cls := findClass_of_methodNamed B9.named
  have w_0 := hts (Cond.classLink RL 15 "java/lang/IllegalArgumentException") (List.mem_cons_of_mem _ b_104)
  subst hsz
  have hD := hD0.self (sz := s.heap.size)
  generalize hAe : va_A ((qo, .inl (cyJ, 1, .inr (.inl of))) :: w1 c0) s.heap.size = A at hD he ⊢
  have hA : ∀ q : Nat, s.heap.size ≤ q → A q := fun q h => by rw [← hAe]; exact Or.inr h
  have hS : va_S A s.heap s.heap [] := va_S.rf
  have hl := lv_entry ([.ref qa, .int p0, .ref qo] : List Value) (n := 4) (Nat.le_of_ble_eq_true rfl)
  rw [lg_entry_eq]
  generalize (lg_sl ([.ref qa, .int p0, .ref qo] : List Value) ++ List.replicate (4 - (lg_sl ([.ref qa, .int p0, .ref qo] : List Value)).length) Slot.unset).toArray = ls at hl ⊢
  have hl : lv_has ls 4 [(0, .ref qa), (1, .int p0), (2, .ref qo)] := hl
  refine lv_aload_n hx hb dL_predicted_0 rfl (lv_at hl 2 rfl) ?_
  refine lv_iconst (v := 0) hx hb dL_predicted_1 (by decide) ?_
  refine lv_aload_n hx hb dL_predicted_2 rfl (lv_at hl 0 rfl) ?_
  refine lv_iload_n hx hb dL_predicted_3 rfl (lv_at hl 1 rfl) ?_
  have hPg : va_P (dC, dI) vwCl (w1 c0) s.heap := xt_P.mpr fun q hq => xt_P.mp hP q (List.mem_cons_of_mem _ hq)
  have hDg : va_D A (w1 c0) := xt_D.mpr ⟨(List.nodup_cons.mp (by rw [← List.map_cons (f := fun q : Nat × va_E => q.1)]; exact (xt_D.mp hD).1)).2, fun q hq => (xt_D.mp hD).2 q (List.mem_cons_of_mem _ hq)⟩
  refine hx_call (XE := XE) (vx_runV (As := [.int p0]) (rest := [.int (0 : Int32), .ref qo]) ⟨hx, hb, hml, hown, hts⟩ (hM s.heap.size) (cwV 1 hts (gBV b_759 b_760 b_761 b_2 b_762) rfl rfl rfl (by decide +kernel) ⟨Nat.le_of_ble_eq_true rfl, Nat.le_of_ble_eq_true rfl⟩) (prm_v eX_ok he hS hPg hDg (hK.sub (tys' := [(cyI, .int), (cyS, .object RX5)]) [0, 1] rfl) (fun q hq => by rcases hq with ⟨k, e9, h9⟩ | h9; exact (xt_D.mp hD).2 (q, e9) (List.mem_cons_of_mem _ (List.mem_of_getElem? h9)); exact hA q h9) 0 hq rfl rfl) rfl rfl hl.1 rfl (lv_room (Nat.le_of_ble_eq_true rfl)) dL_predicted_4 ⟨Nat.le_of_ble_eq_true rfl, Nat.le_of_ble_eq_true rfl⟩) hP hD hS hA (fun E ce q9 H locs hXE hP hS hce hcv hcl => ?_) (fun r u H locs hw hP hD hS => ?_)
  · have htab : c.exceptionTable.toList = tableOf [(0, 9, 12, 15)] := vx_table (x := yL_predicted) B9 (hts _ List.mem_cons_self)
    have hE := hX E hXE
    subst hE
    refine vx_catch (name := nIA) hown ((tableOf [(0, 9, 12, 15)]).take 0) ((tableOf [(0, 9, 12, 15)]).get ⟨0, by decide⟩) ((tableOf [(0, 9, 12, 15)]).drop 1) (by rw [htab]; rfl) (fun z hz => by cases hz) (by decide) (by decide) w_0 (va_Nw.use rfl (he.exc.2.1 _ (by decide))) hce hcv hcl ?_
    refine lv_astore_n (lv' := [(3, .ref q9), (0, .ref qa), (1, .int p0), (2, .ref qo)]) hx hb dL_predicted_12 rfl hl (by decide) rfl (fun ls hl => ?_)
    refine lv_iconst (v := 1) hx hb dL_predicted_13 (by decide) ?_
    refine vx_ret ?_
    exact W.iret (v := (1 : Int32)) hx hb hr (fun t h9 hW => ⟨⟨1, ((c0, of) : CS × (Nat → Int64)), rfl, Or.inr ⟨rfl, hXE, rfl⟩, by rw [h9]; exact hP, hD⟩, hS.F h9⟩) hS.2.2 dL_predicted_14
  · refine lv_i2l hx hb dL_predicted_7 rfl ?_
    refine va_last hx hb hK hP hD hS 0 2 rfl rfl (vp_in_nI (n := 0) (by decide) (by decide)) dL_predicted_8 (fun H locs hP hD hS => ?_)
    refine lv_goto (tgt := 15) hx hb dL_predicted_9 (by decide) ?_
    refine lv_iconst (v := 0) hx hb dL_predicted_15 (by decide) ?_
    refine vx_ret ?_
    exact W.iret (v := (0 : Int32)) hx hb hr (fun t h9 hW => ⟨⟨0, ((u, vp_updL of (0 : Int32).toNatClampNeg r.toInt64) : CS × (Nat → Int64)), rfl, Or.inl ⟨rfl, r, hw, rfl⟩, by rw [h9]; exact hP, hD⟩, hS.F h9⟩) hS.2.2 dL_predicted_16
abbrev wqL_boom : List Cond := Cond.codeWith yL_boom cL_boom 4 (some .int) [(0, 9, 12, 15)] :: wB
set_option maxHeartbeats 1000000 in
set_option maxRecDepth 100000 in
theorem HL_boom (l : Launch) (dC : Nat → ClassId) (dI : Nat → Nat → Nat) (cyI cyS cyJ : ClassId) (qa qo : Nat) (fs : List Value) (w1 : CS → va_W) (c0 : CS) (hq : (w1 c0)[0]? = some (qa, .inr (8, fs))) (P0 : Int32 → CS → Prop) (XE : String → Prop) (of : Nat → Int64) (p0 : Int32)
    (hM : ∀ sz, vx_Met l yX8_boom wqX8_boom ({ frames := 7, cells := 1, slots := 6, locals := 104 } : Room) (va_Pc [.ref qa, .int p0] (pC (dC, dI) (w1 c0) [(cyI, .int), (cyS, .object RX5)] eX sz)) (va_Qi P0 (fun (u : CS) t => va_P (dC, dI) vwCl (w1 u) t.heap ∧ va_D (va_A (w1 c0) sz) (w1 u)) (va_A (w1 c0) sz)) (vx_X (fun _ : Unit => True) (fun E _ _ => XE E) aF) 1 6 (va_A (w1 c0) sz))
    (hX : ∀ E, XE E → E = nIA) (sz : Nat) :
    vx_Met l yL_boom wqL_boom ({ frames := 8, cells := 1, slots := 6, locals := 125 } : Room) (va_Pc [.ref qa, .int p0, .ref qo] (pC (dC, dI) ((qo, .inl (cyJ, 1, .inr (.inl of))) :: w1 c0) [(cyI, .int), (cyS, .object RX5), (cyJ, .long)] eX sz)) (va_Qi (fun r (u : CS × (Nat → Int64)) => (r = 0 ∧ ∃ v, P0 v u.1 ∧ u.2 0 = v.toInt64) ∨ (r = 1 ∧ XE nIA ∧ u.1 = c0)) (fun (u : CS × (Nat → Int64)) t => va_P (dC, dI) vwCl ((qo, .inl (cyJ, 1, .inr (.inl u.2))) :: w1 u.1) t.heap ∧ va_D (va_A ((qo, .inl (cyJ, 1, .inr (.inl of))) :: w1 c0) sz) ((qo, .inl (cyJ, 1, .inr (.inl u.2))) :: w1 u.1)) (va_A ((qo, .inl (cyJ, 1, .inr (.inl of))) :: w1 c0) sz)) (vx_X (fun _ : Unit => False) (fun _ _ _ => True) aF) 1 6 (va_A ((qo, .inl (cyJ, 1, .inr (.inl of))) :: w1 c0) sz) := by
  refine vx_ofWH (cc := cL_boom) (maxL := 4) (ret := (some .int)) (by decide) rfl ?_
  intro p e s m args below meth c s₁ B9 hml hv
  obtain ⟨rfl, hsz, hP, hK, hD0, he⟩ := hv
  have hx := B9.exec
  have hb := B9.bytes
  have hr := B9.returns
  have hts := atoms_spec (ws := wqL_boom) B9.pre
  have hown : s.vm.findClass RL = some m.cls := findClass_of_methodNamed B9.named
  have w_0 := hts (Cond.classLink RL 15 "java/lang/IllegalArgumentException") (List.mem_cons_of_mem _ b_104)
  subst hsz
  have hD := hD0.self (sz := s.heap.size)
  generalize hAe : va_A ((qo, .inl (cyJ, 1, .inr (.inl of))) :: w1 c0) s.heap.size = A at hD he ⊢
  have hA : ∀ q : Nat, s.heap.size ≤ q → A q := fun q h => by rw [← hAe]; exact Or.inr h
  have hS : va_S A s.heap s.heap [] := va_S.rf
  have hl := lv_entry ([.ref qa, .int p0, .ref qo] : List Value) (n := 4) (Nat.le_of_ble_eq_true rfl)
  rw [lg_entry_eq]
  generalize (lg_sl ([.ref qa, .int p0, .ref qo] : List Value) ++ List.replicate (4 - (lg_sl ([.ref qa, .int p0, .ref qo] : List Value)).length) Slot.unset).toArray = ls at hl ⊢
  have hl : lv_has ls 4 [(0, .ref qa), (1, .int p0), (2, .ref qo)] := hl
  refine lv_aload_n hx hb dL_boom_0 rfl (lv_at hl 2 rfl) ?_
  refine lv_iconst (v := 0) hx hb dL_boom_1 (by decide) ?_
  refine lv_aload_n hx hb dL_boom_2 rfl (lv_at hl 0 rfl) ?_
  refine lv_iload_n hx hb dL_boom_3 rfl (lv_at hl 1 rfl) ?_
  have hPg : va_P (dC, dI) vwCl (w1 c0) s.heap := xt_P.mpr fun q hq => xt_P.mp hP q (List.mem_cons_of_mem _ hq)
  have hDg : va_D A (w1 c0) := xt_D.mpr ⟨(List.nodup_cons.mp (by rw [← List.map_cons (f := fun q : Nat × va_E => q.1)]; exact (xt_D.mp hD).1)).2, fun q hq => (xt_D.mp hD).2 q (List.mem_cons_of_mem _ hq)⟩
  refine hx_call (XE := XE) (vx_runV (As := [.int p0]) (rest := [.int (0 : Int32), .ref qo]) ⟨hx, hb, hml, hown, hts⟩ (hM s.heap.size) (cwV 1 hts (gBV b_770 b_771 b_772 b_2 b_773) rfl rfl rfl (by decide +kernel) ⟨Nat.le_of_ble_eq_true rfl, Nat.le_of_ble_eq_true rfl⟩) (prm_v eX_ok he hS hPg hDg (hK.sub (tys' := [(cyI, .int), (cyS, .object RX5)]) [0, 1] rfl) (fun q hq => by rcases hq with ⟨k, e9, h9⟩ | h9; exact (xt_D.mp hD).2 (q, e9) (List.mem_cons_of_mem _ (List.mem_of_getElem? h9)); exact hA q h9) 0 hq rfl rfl) rfl rfl hl.1 rfl (lv_room (Nat.le_of_ble_eq_true rfl)) dL_boom_4 ⟨Nat.le_of_ble_eq_true rfl, Nat.le_of_ble_eq_true rfl⟩) hP hD hS hA (fun E ce q9 H locs hXE hP hS hce hcv hcl => ?_) (fun r u H locs hw hP hD hS => ?_)
  · have htab : c.exceptionTable.toList = tableOf [(0, 9, 12, 15)] := vx_table (x := yL_boom) B9 (hts _ List.mem_cons_self)
    have hE := hX E hXE
    subst hE
    refine vx_catch (name := nIA) hown ((tableOf [(0, 9, 12, 15)]).take 0) ((tableOf [(0, 9, 12, 15)]).get ⟨0, by decide⟩) ((tableOf [(0, 9, 12, 15)]).drop 1) (by rw [htab]; rfl) (fun z hz => by cases hz) (by decide) (by decide) w_0 (va_Nw.use rfl (he.exc.2.1 _ (by decide))) hce hcv hcl ?_
    refine lv_astore_n (lv' := [(3, .ref q9), (0, .ref qa), (1, .int p0), (2, .ref qo)]) hx hb dL_boom_12 rfl hl (by decide) rfl (fun ls hl => ?_)
    refine lv_iconst (v := 1) hx hb dL_boom_13 (by decide) ?_
    refine vx_ret ?_
    exact W.iret (v := (1 : Int32)) hx hb hr (fun t h9 hW => ⟨⟨1, ((c0, of) : CS × (Nat → Int64)), rfl, Or.inr ⟨rfl, hXE, rfl⟩, by rw [h9]; exact hP, hD⟩, hS.F h9⟩) hS.2.2 dL_boom_14
  · refine lv_i2l hx hb dL_boom_7 rfl ?_
    refine va_last hx hb hK hP hD hS 0 2 rfl rfl (vp_in_nI (n := 0) (by decide) (by decide)) dL_boom_8 (fun H locs hP hD hS => ?_)
    refine lv_goto (tgt := 15) hx hb dL_boom_9 (by decide) ?_
    refine lv_iconst (v := 0) hx hb dL_boom_15 (by decide) ?_
    refine vx_ret ?_
    exact W.iret (v := (0 : Int32)) hx hb hr (fun t h9 hW => ⟨⟨0, ((u, vp_updL of (0 : Int32).toNatClampNeg r.toInt64) : CS × (Nat → Int64)), rfl, Or.inl ⟨rfl, r, hw, rfl⟩, by rw [h9]; exact hP, hD⟩, hS.F h9⟩) hS.2.2 dL_boom_16
abbrev wqL_limiter : List Cond := Cond.codeWith yL_limiter cL_limiter 4 (some .int) [(0, 9, 12, 15)] :: wB
set_option maxHeartbeats 1000000 in
set_option maxRecDepth 100000 in
theorem HL_limiter (l : Launch) (dC : Nat → ClassId) (dI : Nat → Nat → Nat) (cyI cyS cyJ : ClassId) (qa qo : Nat) (fs : List Value) (w1 : CS → va_W) (c0 : CS) (hq : (w1 c0)[0]? = some (qa, .inr (8, fs))) (P0 : Int32 → CS → Prop) (XE : String → Prop) (of : Nat → Int64) (p0 : Int32)
    (hM : ∀ sz, vx_Met l yX8_limiter wqX8_limiter ({ frames := 7, cells := 1, slots := 6, locals := 126 } : Room) (va_Pc [.ref qa, .int p0] (pC (dC, dI) (w1 c0) [(cyI, .int), (cyS, .object RX5)] eX sz)) (va_Qi P0 (fun (u : CS) t => va_P (dC, dI) vwCl (w1 u) t.heap ∧ va_D (va_A (w1 c0) sz) (w1 u)) (va_A (w1 c0) sz)) (vx_X (fun _ : Unit => True) (fun E _ _ => XE E) aF) 1 6 (va_A (w1 c0) sz))
    (hX : ∀ E, XE E → E = nIA) (sz : Nat) :
    vx_Met l yL_limiter wqL_limiter ({ frames := 8, cells := 1, slots := 6, locals := 147 } : Room) (va_Pc [.ref qa, .int p0, .ref qo] (pC (dC, dI) ((qo, .inl (cyJ, 1, .inr (.inl of))) :: w1 c0) [(cyI, .int), (cyS, .object RX5), (cyJ, .long)] eX sz)) (va_Qi (fun r (u : CS × (Nat → Int64)) => (r = 0 ∧ ∃ v, P0 v u.1 ∧ u.2 0 = v.toInt64) ∨ (r = 1 ∧ XE nIA ∧ u.1 = c0)) (fun (u : CS × (Nat → Int64)) t => va_P (dC, dI) vwCl ((qo, .inl (cyJ, 1, .inr (.inl u.2))) :: w1 u.1) t.heap ∧ va_D (va_A ((qo, .inl (cyJ, 1, .inr (.inl of))) :: w1 c0) sz) ((qo, .inl (cyJ, 1, .inr (.inl u.2))) :: w1 u.1)) (va_A ((qo, .inl (cyJ, 1, .inr (.inl of))) :: w1 c0) sz)) (vx_X (fun _ : Unit => False) (fun _ _ _ => True) aF) 1 6 (va_A ((qo, .inl (cyJ, 1, .inr (.inl of))) :: w1 c0) sz) := by
  refine vx_ofWH (cc := cL_limiter) (maxL := 4) (ret := (some .int)) (by decide) rfl ?_
  intro p e s m args below meth c s₁ B9 hml hv
  obtain ⟨rfl, hsz, hP, hK, hD0, he⟩ := hv
  have hx := B9.exec
  have hb := B9.bytes
  have hr := B9.returns
  have hts := atoms_spec (ws := wqL_limiter) B9.pre
  have hown : s.vm.findClass RL = some m.cls := findClass_of_methodNamed B9.named
  have w_0 := hts (Cond.classLink RL 15 "java/lang/IllegalArgumentException") (List.mem_cons_of_mem _ b_104)
  subst hsz
  have hD := hD0.self (sz := s.heap.size)
  generalize hAe : va_A ((qo, .inl (cyJ, 1, .inr (.inl of))) :: w1 c0) s.heap.size = A at hD he ⊢
  have hA : ∀ q : Nat, s.heap.size ≤ q → A q := fun q h => by rw [← hAe]; exact Or.inr h
  have hS : va_S A s.heap s.heap [] := va_S.rf
  have hl := lv_entry ([.ref qa, .int p0, .ref qo] : List Value) (n := 4) (Nat.le_of_ble_eq_true rfl)
  rw [lg_entry_eq]
  generalize (lg_sl ([.ref qa, .int p0, .ref qo] : List Value) ++ List.replicate (4 - (lg_sl ([.ref qa, .int p0, .ref qo] : List Value)).length) Slot.unset).toArray = ls at hl ⊢
  have hl : lv_has ls 4 [(0, .ref qa), (1, .int p0), (2, .ref qo)] := hl
  refine lv_aload_n hx hb dL_limiter_0 rfl (lv_at hl 2 rfl) ?_
  refine lv_iconst (v := 0) hx hb dL_limiter_1 (by decide) ?_
  refine lv_aload_n hx hb dL_limiter_2 rfl (lv_at hl 0 rfl) ?_
  refine lv_iload_n hx hb dL_limiter_3 rfl (lv_at hl 1 rfl) ?_
  have hPg : va_P (dC, dI) vwCl (w1 c0) s.heap := xt_P.mpr fun q hq => xt_P.mp hP q (List.mem_cons_of_mem _ hq)
  have hDg : va_D A (w1 c0) := xt_D.mpr ⟨(List.nodup_cons.mp (by rw [← List.map_cons (f := fun q : Nat × va_E => q.1)]; exact (xt_D.mp hD).1)).2, fun q hq => (xt_D.mp hD).2 q (List.mem_cons_of_mem _ hq)⟩
  refine hx_call (XE := XE) (vx_runV (As := [.int p0]) (rest := [.int (0 : Int32), .ref qo]) ⟨hx, hb, hml, hown, hts⟩ (hM s.heap.size) (cwV 1 hts (gBV b_793 b_794 b_795 b_2 b_796) rfl rfl rfl (by decide +kernel) ⟨Nat.le_of_ble_eq_true rfl, Nat.le_of_ble_eq_true rfl⟩) (prm_v eX_ok he hS hPg hDg (hK.sub (tys' := [(cyI, .int), (cyS, .object RX5)]) [0, 1] rfl) (fun q hq => by rcases hq with ⟨k, e9, h9⟩ | h9; exact (xt_D.mp hD).2 (q, e9) (List.mem_cons_of_mem _ (List.mem_of_getElem? h9)); exact hA q h9) 0 hq rfl rfl) rfl rfl hl.1 rfl (lv_room (Nat.le_of_ble_eq_true rfl)) dL_limiter_4 ⟨Nat.le_of_ble_eq_true rfl, Nat.le_of_ble_eq_true rfl⟩) hP hD hS hA (fun E ce q9 H locs hXE hP hS hce hcv hcl => ?_) (fun r u H locs hw hP hD hS => ?_)
  · have htab : c.exceptionTable.toList = tableOf [(0, 9, 12, 15)] := vx_table (x := yL_limiter) B9 (hts _ List.mem_cons_self)
    have hE := hX E hXE
    subst hE
    refine vx_catch (name := nIA) hown ((tableOf [(0, 9, 12, 15)]).take 0) ((tableOf [(0, 9, 12, 15)]).get ⟨0, by decide⟩) ((tableOf [(0, 9, 12, 15)]).drop 1) (by rw [htab]; rfl) (fun z hz => by cases hz) (by decide) (by decide) w_0 (va_Nw.use rfl (he.exc.2.1 _ (by decide))) hce hcv hcl ?_
    refine lv_astore_n (lv' := [(3, .ref q9), (0, .ref qa), (1, .int p0), (2, .ref qo)]) hx hb dL_limiter_12 rfl hl (by decide) rfl (fun ls hl => ?_)
    refine lv_iconst (v := 1) hx hb dL_limiter_13 (by decide) ?_
    refine vx_ret ?_
    exact W.iret (v := (1 : Int32)) hx hb hr (fun t h9 hW => ⟨⟨1, ((c0, of) : CS × (Nat → Int64)), rfl, Or.inr ⟨rfl, hXE, rfl⟩, by rw [h9]; exact hP, hD⟩, hS.F h9⟩) hS.2.2 dL_limiter_14
  · refine lv_i2l hx hb dL_limiter_7 rfl ?_
    refine va_last hx hb hK hP hD hS 0 2 rfl rfl (vp_in_nI (n := 0) (by decide) (by decide)) dL_limiter_8 (fun H locs hP hD hS => ?_)
    refine lv_goto (tgt := 15) hx hb dL_limiter_9 (by decide) ?_
    refine lv_iconst (v := 0) hx hb dL_limiter_15 (by decide) ?_
    refine vx_ret ?_
    exact W.iret (v := (0 : Int32)) hx hb hr (fun t h9 hW => ⟨⟨0, ((u, vp_updL of (0 : Int32).toNatClampNeg r.toInt64) : CS × (Nat → Int64)), rfl, Or.inl ⟨rfl, r, hw, rfl⟩, by rw [h9]; exact hP, hD⟩, hS.F h9⟩) hS.2.2 dL_limiter_16
abbrev wqL_rated : List Cond := Cond.codeWith yL_rated cL_rated 6 (some .int) [(0, 12, 15, 15)] :: wB
set_option maxHeartbeats 1000000 in
set_option maxRecDepth 100000 in
theorem HL_rated (l : Launch) (dC : Nat → ClassId) (dI : Nat → Nat → Nat) (cyI cyS cyJ : ClassId) (qa qo : Nat) (fs : List Value) (w1 : CS → va_W) (c0 : CS) (hq : (w1 c0)[0]? = some (qa, .inr (8, fs))) (P0 : Int32 → CS → Prop) (XE : String → Prop) (of : Nat → Int64) (p0 : Int32) (p1 : Int32) (p2 : Int32)
    (hM : ∀ sz, vx_Met l yX8_rated wqX8_rated ({ frames := 9, cells := 3, slots := 18, locals := 146 } : Room) (va_Pc [.ref qa, .int p0, .int p1, .int p2] (pC (dC, dI) (w1 c0) [(cyI, .int), (cyS, .object RX5)] eX sz)) (va_Qi P0 (fun (u : CS) t => va_P (dC, dI) vwCl (w1 u) t.heap ∧ va_D (va_A (w1 c0) sz) (w1 u)) (va_A (w1 c0) sz)) (vx_X (fun _ : Unit => True) (fun E _ _ => XE E) aF) 3 18 (va_A (w1 c0) sz))
    (hX : ∀ E, XE E → E = nIA) (sz : Nat) :
    vx_Met l yL_rated wqL_rated ({ frames := 10, cells := 3, slots := 18, locals := 169 } : Room) (va_Pc [.ref qa, .int p0, .int p1, .int p2, .ref qo] (pC (dC, dI) ((qo, .inl (cyJ, 1, .inr (.inl of))) :: w1 c0) [(cyI, .int), (cyS, .object RX5), (cyJ, .long)] eX sz)) (va_Qi (fun r (u : CS × (Nat → Int64)) => (r = 0 ∧ ∃ v, P0 v u.1 ∧ u.2 0 = v.toInt64) ∨ (r = 1 ∧ XE nIA ∧ u.1 = c0)) (fun (u : CS × (Nat → Int64)) t => va_P (dC, dI) vwCl ((qo, .inl (cyJ, 1, .inr (.inl u.2))) :: w1 u.1) t.heap ∧ va_D (va_A ((qo, .inl (cyJ, 1, .inr (.inl of))) :: w1 c0) sz) ((qo, .inl (cyJ, 1, .inr (.inl u.2))) :: w1 u.1)) (va_A ((qo, .inl (cyJ, 1, .inr (.inl of))) :: w1 c0) sz)) (vx_X (fun _ : Unit => False) (fun _ _ _ => True) aF) 3 18 (va_A ((qo, .inl (cyJ, 1, .inr (.inl of))) :: w1 c0) sz) := by
  refine vx_ofWH (cc := cL_rated) (maxL := 6) (ret := (some .int)) (by decide) rfl ?_
  intro p e s m args below meth c s₁ B9 hml hv
  obtain ⟨rfl, hsz, hP, hK, hD0, he⟩ := hv
  have hx := B9.exec
  have hb := B9.bytes
  have hr := B9.returns
  have hts := atoms_spec (ws := wqL_rated) B9.pre
  have hown : s.vm.findClass RL = some m.cls := findClass_of_methodNamed B9.named
  have w_0 := hts (Cond.classLink RL 15 "java/lang/IllegalArgumentException") (List.mem_cons_of_mem _ b_104)
  subst hsz
  have hD := hD0.self (sz := s.heap.size)
  generalize hAe : va_A ((qo, .inl (cyJ, 1, .inr (.inl of))) :: w1 c0) s.heap.size = A at hD he ⊢
  have hA : ∀ q : Nat, s.heap.size ≤ q → A q := fun q h => by rw [← hAe]; exact Or.inr h
  have hS : va_S A s.heap s.heap [] := va_S.rf
  have hl := lv_entry ([.ref qa, .int p0, .int p1, .int p2, .ref qo] : List Value) (n := 6) (Nat.le_of_ble_eq_true rfl)
  rw [lg_entry_eq]
  generalize (lg_sl ([.ref qa, .int p0, .int p1, .int p2, .ref qo] : List Value) ++ List.replicate (6 - (lg_sl ([.ref qa, .int p0, .int p1, .int p2, .ref qo] : List Value)).length) Slot.unset).toArray = ls at hl ⊢
  have hl : lv_has ls 6 [(0, .ref qa), (1, .int p0), (2, .int p1), (3, .int p2), (4, .ref qo)] := hl
  refine lv_aload hx hb dL_rated_0 (lv_at hl 4 rfl) ?_
  refine lv_iconst (v := 0) hx hb dL_rated_2 (by decide) ?_
  refine lv_aload_n hx hb dL_rated_3 rfl (lv_at hl 0 rfl) ?_
  refine lv_iload_n hx hb dL_rated_4 rfl (lv_at hl 1 rfl) ?_
  refine lv_iload_n hx hb dL_rated_5 rfl (lv_at hl 2 rfl) ?_
  refine lv_iload_n hx hb dL_rated_6 rfl (lv_at hl 3 rfl) ?_
  have hPg : va_P (dC, dI) vwCl (w1 c0) s.heap := xt_P.mpr fun q hq => xt_P.mp hP q (List.mem_cons_of_mem _ hq)
  have hDg : va_D A (w1 c0) := xt_D.mpr ⟨(List.nodup_cons.mp (by rw [← List.map_cons (f := fun q : Nat × va_E => q.1)]; exact (xt_D.mp hD).1)).2, fun q hq => (xt_D.mp hD).2 q (List.mem_cons_of_mem _ hq)⟩
  refine hx_call (XE := XE) (vx_runV (As := [.int p0, .int p1, .int p2]) (rest := [.int (0 : Int32), .ref qo]) ⟨hx, hb, hml, hown, hts⟩ (hM s.heap.size) (cwV 3 hts (gBV b_814 b_815 b_816 b_2 b_817) rfl rfl rfl (by decide +kernel) ⟨Nat.le_of_ble_eq_true rfl, Nat.le_of_ble_eq_true rfl⟩) (prm_v eX_ok he hS hPg hDg (hK.sub (tys' := [(cyI, .int), (cyS, .object RX5)]) [0, 1] rfl) (fun q hq => by rcases hq with ⟨k, e9, h9⟩ | h9; exact (xt_D.mp hD).2 (q, e9) (List.mem_cons_of_mem _ (List.mem_of_getElem? h9)); exact hA q h9) 0 hq rfl rfl) rfl rfl hl.1 rfl (lv_room (Nat.le_of_ble_eq_true rfl)) dL_rated_7 ⟨Nat.le_of_ble_eq_true rfl, Nat.le_of_ble_eq_true rfl⟩) hP hD hS hA (fun E ce q9 H locs hXE hP hS hce hcv hcl => ?_) (fun r u H locs hw hP hD hS => ?_)
  · have htab : c.exceptionTable.toList = tableOf [(0, 12, 15, 15)] := vx_table (x := yL_rated) B9 (hts _ List.mem_cons_self)
    have hE := hX E hXE
    subst hE
    refine vx_catch (name := nIA) hown ((tableOf [(0, 12, 15, 15)]).take 0) ((tableOf [(0, 12, 15, 15)]).get ⟨0, by decide⟩) ((tableOf [(0, 12, 15, 15)]).drop 1) (by rw [htab]; rfl) (fun z hz => by cases hz) (by decide) (by decide) w_0 (va_Nw.use rfl (he.exc.2.1 _ (by decide))) hce hcv hcl ?_
    refine lv_astore (lv' := [(5, .ref q9), (0, .ref qa), (1, .int p0), (2, .int p1), (3, .int p2), (4, .ref qo)]) hx hb dL_rated_15 hl (by decide) rfl (fun ls hl => ?_)
    refine lv_iconst (v := 1) hx hb dL_rated_17 (by decide) ?_
    refine vx_ret ?_
    exact W.iret (v := (1 : Int32)) hx hb hr (fun t h9 hW => ⟨⟨1, ((c0, of) : CS × (Nat → Int64)), rfl, Or.inr ⟨rfl, hXE, rfl⟩, by rw [h9]; exact hP, hD⟩, hS.F h9⟩) hS.2.2 dL_rated_18
  · refine lv_i2l hx hb dL_rated_10 rfl ?_
    refine va_last hx hb hK hP hD hS 0 2 rfl rfl (vp_in_nI (n := 0) (by decide) (by decide)) dL_rated_11 (fun H locs hP hD hS => ?_)
    refine lv_goto (tgt := 19) hx hb dL_rated_12 (by decide) ?_
    refine lv_iconst (v := 0) hx hb dL_rated_19 (by decide) ?_
    refine vx_ret ?_
    exact W.iret (v := (0 : Int32)) hx hb hr (fun t h9 hW => ⟨⟨0, ((u, vp_updL of (0 : Int32).toNatClampNeg r.toInt64) : CS × (Nat → Int64)), rfl, Or.inl ⟨rfl, r, hw, rfl⟩, by rw [h9]; exact hP, hD⟩, hS.F h9⟩) hS.2.2 dL_rated_20
abbrev wqL_maxRadius : List Cond := Cond.codeWith yL_maxRadius cL_maxRadius 4 (some .int) [(0, 9, 12, 15)] :: wB
set_option maxHeartbeats 1000000 in
set_option maxRecDepth 100000 in
theorem HL_maxRadius (l : Launch) (dC : Nat → ClassId) (dI : Nat → Nat → Nat) (cyI cyS cyJ : ClassId) (qa qo : Nat) (fs : List Value) (w1 : CS → va_W) (c0 : CS) (hq : (w1 c0)[0]? = some (qa, .inr (8, fs))) (P0 : Int32 → CS → Prop) (XE : String → Prop) (of : Nat → Int64) (p0 : Int32)
    (hM : ∀ sz, vx_Met l yX8_maxRadius wqX8_maxRadius ({ frames := 7, cells := 1, slots := 6, locals := 104 } : Room) (va_Pc [.ref qa, .int p0] (pC (dC, dI) (w1 c0) [(cyI, .int), (cyS, .object RX5)] eX sz)) (va_Qi P0 (fun (u : CS) t => va_P (dC, dI) vwCl (w1 u) t.heap ∧ va_D (va_A (w1 c0) sz) (w1 u)) (va_A (w1 c0) sz)) (vx_X (fun _ : Unit => True) (fun E _ _ => XE E) aF) 1 6 (va_A (w1 c0) sz))
    (hX : ∀ E, XE E → E = nIA) (sz : Nat) :
    vx_Met l yL_maxRadius wqL_maxRadius ({ frames := 8, cells := 1, slots := 6, locals := 126 } : Room) (va_Pc [.ref qa, .int p0, .ref qo] (pC (dC, dI) ((qo, .inl (cyJ, 1, .inr (.inl of))) :: w1 c0) [(cyI, .int), (cyS, .object RX5), (cyJ, .long)] eX sz)) (va_Qi (fun r (u : CS × (Nat → Int64)) => (r = 0 ∧ ∃ v, P0 v u.1 ∧ u.2 0 = v.toInt64) ∨ (r = 1 ∧ XE nIA ∧ u.1 = c0)) (fun (u : CS × (Nat → Int64)) t => va_P (dC, dI) vwCl ((qo, .inl (cyJ, 1, .inr (.inl u.2))) :: w1 u.1) t.heap ∧ va_D (va_A ((qo, .inl (cyJ, 1, .inr (.inl of))) :: w1 c0) sz) ((qo, .inl (cyJ, 1, .inr (.inl u.2))) :: w1 u.1)) (va_A ((qo, .inl (cyJ, 1, .inr (.inl of))) :: w1 c0) sz)) (vx_X (fun _ : Unit => False) (fun _ _ _ => True) aF) 1 6 (va_A ((qo, .inl (cyJ, 1, .inr (.inl of))) :: w1 c0) sz) := by
  refine vx_ofWH (cc := cL_maxRadius) (maxL := 4) (ret := (some .int)) (by decide) rfl ?_
  intro p e s m args below meth c s₁ B9 hml hv
  obtain ⟨rfl, hsz, hP, hK, hD0, he⟩ := hv
  have hx := B9.exec
  have hb := B9.bytes
  have hr := B9.returns
  have hts := atoms_spec (ws := wqL_maxRadius) B9.pre
  have hown : s.vm.findClass RL = some m.cls := findClass_of_methodNamed B9.named
  have w_0 := hts (Cond.classLink RL 15 "java/lang/IllegalArgumentException") (List.mem_cons_of_mem _ b_104)
  subst hsz
  have hD := hD0.self (sz := s.heap.size)
  generalize hAe : va_A ((qo, .inl (cyJ, 1, .inr (.inl of))) :: w1 c0) s.heap.size = A at hD he ⊢
  have hA : ∀ q : Nat, s.heap.size ≤ q → A q := fun q h => by rw [← hAe]; exact Or.inr h
  have hS : va_S A s.heap s.heap [] := va_S.rf
  have hl := lv_entry ([.ref qa, .int p0, .ref qo] : List Value) (n := 4) (Nat.le_of_ble_eq_true rfl)
  rw [lg_entry_eq]
  generalize (lg_sl ([.ref qa, .int p0, .ref qo] : List Value) ++ List.replicate (4 - (lg_sl ([.ref qa, .int p0, .ref qo] : List Value)).length) Slot.unset).toArray = ls at hl ⊢
  have hl : lv_has ls 4 [(0, .ref qa), (1, .int p0), (2, .ref qo)] := hl
  refine lv_aload_n hx hb dL_maxRadius_0 rfl (lv_at hl 2 rfl) ?_
  refine lv_iconst (v := 0) hx hb dL_maxRadius_1 (by decide) ?_
  refine lv_aload_n hx hb dL_maxRadius_2 rfl (lv_at hl 0 rfl) ?_
  refine lv_iload_n hx hb dL_maxRadius_3 rfl (lv_at hl 1 rfl) ?_
  have hPg : va_P (dC, dI) vwCl (w1 c0) s.heap := xt_P.mpr fun q hq => xt_P.mp hP q (List.mem_cons_of_mem _ hq)
  have hDg : va_D A (w1 c0) := xt_D.mpr ⟨(List.nodup_cons.mp (by rw [← List.map_cons (f := fun q : Nat × va_E => q.1)]; exact (xt_D.mp hD).1)).2, fun q hq => (xt_D.mp hD).2 q (List.mem_cons_of_mem _ hq)⟩
  refine hx_call (XE := XE) (vx_runV (As := [.int p0]) (rest := [.int (0 : Int32), .ref qo]) ⟨hx, hb, hml, hown, hts⟩ (hM s.heap.size) (cwV 1 hts (gBV b_825 b_826 b_827 b_2 b_828) rfl rfl rfl (by decide +kernel) ⟨Nat.le_of_ble_eq_true rfl, Nat.le_of_ble_eq_true rfl⟩) (prm_v eX_ok he hS hPg hDg (hK.sub (tys' := [(cyI, .int), (cyS, .object RX5)]) [0, 1] rfl) (fun q hq => by rcases hq with ⟨k, e9, h9⟩ | h9; exact (xt_D.mp hD).2 (q, e9) (List.mem_cons_of_mem _ (List.mem_of_getElem? h9)); exact hA q h9) 0 hq rfl rfl) rfl rfl hl.1 rfl (lv_room (Nat.le_of_ble_eq_true rfl)) dL_maxRadius_4 ⟨Nat.le_of_ble_eq_true rfl, Nat.le_of_ble_eq_true rfl⟩) hP hD hS hA (fun E ce q9 H locs hXE hP hS hce hcv hcl => ?_) (fun r u H locs hw hP hD hS => ?_)
  · have htab : c.exceptionTable.toList = tableOf [(0, 9, 12, 15)] := vx_table (x := yL_maxRadius) B9 (hts _ List.mem_cons_self)
    have hE := hX E hXE
    subst hE
    refine vx_catch (name := nIA) hown ((tableOf [(0, 9, 12, 15)]).take 0) ((tableOf [(0, 9, 12, 15)]).get ⟨0, by decide⟩) ((tableOf [(0, 9, 12, 15)]).drop 1) (by rw [htab]; rfl) (fun z hz => by cases hz) (by decide) (by decide) w_0 (va_Nw.use rfl (he.exc.2.1 _ (by decide))) hce hcv hcl ?_
    refine lv_astore_n (lv' := [(3, .ref q9), (0, .ref qa), (1, .int p0), (2, .ref qo)]) hx hb dL_maxRadius_12 rfl hl (by decide) rfl (fun ls hl => ?_)
    refine lv_iconst (v := 1) hx hb dL_maxRadius_13 (by decide) ?_
    refine vx_ret ?_
    exact W.iret (v := (1 : Int32)) hx hb hr (fun t h9 hW => ⟨⟨1, ((c0, of) : CS × (Nat → Int64)), rfl, Or.inr ⟨rfl, hXE, rfl⟩, by rw [h9]; exact hP, hD⟩, hS.F h9⟩) hS.2.2 dL_maxRadius_14
  · refine lv_i2l hx hb dL_maxRadius_7 rfl ?_
    refine va_last hx hb hK hP hD hS 0 2 rfl rfl (vp_in_nI (n := 0) (by decide) (by decide)) dL_maxRadius_8 (fun H locs hP hD hS => ?_)
    refine lv_goto (tgt := 15) hx hb dL_maxRadius_9 (by decide) ?_
    refine lv_iconst (v := 0) hx hb dL_maxRadius_15 (by decide) ?_
    refine vx_ret ?_
    exact W.iret (v := (0 : Int32)) hx hb hr (fun t h9 hW => ⟨⟨0, ((u, vp_updL of (0 : Int32).toNatClampNeg r.toInt64) : CS × (Nat → Int64)), rfl, Or.inl ⟨rfl, r, hw, rfl⟩, by rw [h9]; exact hP, hD⟩, hS.F h9⟩) hS.2.2 dL_maxRadius_16
abbrev wqL_worstSlew : List Cond := Cond.codeWith yL_worstSlew cL_worstSlew 6 (some .int) [(0, 12, 15, 15)] :: wB
set_option maxHeartbeats 1000000 in
set_option maxRecDepth 100000 in
theorem HL_worstSlew (l : Launch) (dC : Nat → ClassId) (dI : Nat → Nat → Nat) (cyI cyS cyJ : ClassId) (qa qo : Nat) (fs : List Value) (w1 : CS → va_W) (c0 : CS) (hq : (w1 c0)[0]? = some (qa, .inr (8, fs))) (P0 : Int32 → CS → Prop) (XE : String → Prop) (of : Nat → Int64) (p0 : Int32) (p1 : Int32) (p2 : Int32)
    (hM : ∀ sz, vx_Met l yX8_worstSlew wqX8_worstSlew ({ frames := 8, cells := 3, slots := 18, locals := 124 } : Room) (va_Pc [.ref qa, .int p0, .int p1, .int p2] (pC (dC, dI) (w1 c0) [(cyI, .int), (cyS, .object RX5)] eX sz)) (va_Qi P0 (fun (u : CS) t => va_P (dC, dI) vwCl (w1 u) t.heap ∧ va_D (va_A (w1 c0) sz) (w1 u)) (va_A (w1 c0) sz)) (vx_X (fun _ : Unit => True) (fun E _ _ => XE E) aF) 3 18 (va_A (w1 c0) sz))
    (hX : ∀ E, XE E → E = nIA) (sz : Nat) :
    vx_Met l yL_worstSlew wqL_worstSlew ({ frames := 9, cells := 3, slots := 18, locals := 154 } : Room) (va_Pc [.ref qa, .int p0, .int p1, .int p2, .ref qo] (pC (dC, dI) ((qo, .inl (cyJ, 1, .inr (.inl of))) :: w1 c0) [(cyI, .int), (cyS, .object RX5), (cyJ, .long)] eX sz)) (va_Qi (fun r (u : CS × (Nat → Int64)) => (r = 0 ∧ ∃ v, P0 v u.1 ∧ u.2 0 = v.toInt64) ∨ (r = 1 ∧ XE nIA ∧ u.1 = c0)) (fun (u : CS × (Nat → Int64)) t => va_P (dC, dI) vwCl ((qo, .inl (cyJ, 1, .inr (.inl u.2))) :: w1 u.1) t.heap ∧ va_D (va_A ((qo, .inl (cyJ, 1, .inr (.inl of))) :: w1 c0) sz) ((qo, .inl (cyJ, 1, .inr (.inl u.2))) :: w1 u.1)) (va_A ((qo, .inl (cyJ, 1, .inr (.inl of))) :: w1 c0) sz)) (vx_X (fun _ : Unit => False) (fun _ _ _ => True) aF) 3 18 (va_A ((qo, .inl (cyJ, 1, .inr (.inl of))) :: w1 c0) sz) := by
  refine vx_ofWH (cc := cL_worstSlew) (maxL := 6) (ret := (some .int)) (by decide) rfl ?_
  intro p e s m args below meth c s₁ B9 hml hv
  obtain ⟨rfl, hsz, hP, hK, hD0, he⟩ := hv
  have hx := B9.exec
  have hb := B9.bytes
  have hr := B9.returns
  have hts := atoms_spec (ws := wqL_worstSlew) B9.pre
  have hown : s.vm.findClass RL = some m.cls := findClass_of_methodNamed B9.named
  have w_0 := hts (Cond.classLink RL 15 "java/lang/IllegalArgumentException") (List.mem_cons_of_mem _ b_104)
  subst hsz
  have hD := hD0.self (sz := s.heap.size)
  generalize hAe : va_A ((qo, .inl (cyJ, 1, .inr (.inl of))) :: w1 c0) s.heap.size = A at hD he ⊢
  have hA : ∀ q : Nat, s.heap.size ≤ q → A q := fun q h => by rw [← hAe]; exact Or.inr h
  have hS : va_S A s.heap s.heap [] := va_S.rf
  have hl := lv_entry ([.ref qa, .int p0, .int p1, .int p2, .ref qo] : List Value) (n := 6) (Nat.le_of_ble_eq_true rfl)
  rw [lg_entry_eq]
  generalize (lg_sl ([.ref qa, .int p0, .int p1, .int p2, .ref qo] : List Value) ++ List.replicate (6 - (lg_sl ([.ref qa, .int p0, .int p1, .int p2, .ref qo] : List Value)).length) Slot.unset).toArray = ls at hl ⊢
  have hl : lv_has ls 6 [(0, .ref qa), (1, .int p0), (2, .int p1), (3, .int p2), (4, .ref qo)] := hl
  refine lv_aload hx hb dL_worstSlew_0 (lv_at hl 4 rfl) ?_
  refine lv_iconst (v := 0) hx hb dL_worstSlew_2 (by decide) ?_
  refine lv_aload_n hx hb dL_worstSlew_3 rfl (lv_at hl 0 rfl) ?_
  refine lv_iload_n hx hb dL_worstSlew_4 rfl (lv_at hl 1 rfl) ?_
  refine lv_iload_n hx hb dL_worstSlew_5 rfl (lv_at hl 2 rfl) ?_
  refine lv_iload_n hx hb dL_worstSlew_6 rfl (lv_at hl 3 rfl) ?_
  have hPg : va_P (dC, dI) vwCl (w1 c0) s.heap := xt_P.mpr fun q hq => xt_P.mp hP q (List.mem_cons_of_mem _ hq)
  have hDg : va_D A (w1 c0) := xt_D.mpr ⟨(List.nodup_cons.mp (by rw [← List.map_cons (f := fun q : Nat × va_E => q.1)]; exact (xt_D.mp hD).1)).2, fun q hq => (xt_D.mp hD).2 q (List.mem_cons_of_mem _ hq)⟩
  refine hx_call (XE := XE) (vx_runV (As := [.int p0, .int p1, .int p2]) (rest := [.int (0 : Int32), .ref qo]) ⟨hx, hb, hml, hown, hts⟩ (hM s.heap.size) (cwV 3 hts (gBV b_836 b_837 b_838 b_2 b_839) rfl rfl rfl (by decide +kernel) ⟨Nat.le_of_ble_eq_true rfl, Nat.le_of_ble_eq_true rfl⟩) (prm_v eX_ok he hS hPg hDg (hK.sub (tys' := [(cyI, .int), (cyS, .object RX5)]) [0, 1] rfl) (fun q hq => by rcases hq with ⟨k, e9, h9⟩ | h9; exact (xt_D.mp hD).2 (q, e9) (List.mem_cons_of_mem _ (List.mem_of_getElem? h9)); exact hA q h9) 0 hq rfl rfl) rfl rfl hl.1 rfl (lv_room (Nat.le_of_ble_eq_true rfl)) dL_worstSlew_7 ⟨Nat.le_of_ble_eq_true rfl, Nat.le_of_ble_eq_true rfl⟩) hP hD hS hA (fun E ce q9 H locs hXE hP hS hce hcv hcl => ?_) (fun r u H locs hw hP hD hS => ?_)
  · have htab : c.exceptionTable.toList = tableOf [(0, 12, 15, 15)] := vx_table (x := yL_worstSlew) B9 (hts _ List.mem_cons_self)
    have hE := hX E hXE
    subst hE
    refine vx_catch (name := nIA) hown ((tableOf [(0, 12, 15, 15)]).take 0) ((tableOf [(0, 12, 15, 15)]).get ⟨0, by decide⟩) ((tableOf [(0, 12, 15, 15)]).drop 1) (by rw [htab]; rfl) (fun z hz => by cases hz) (by decide) (by decide) w_0 (va_Nw.use rfl (he.exc.2.1 _ (by decide))) hce hcv hcl ?_
    refine lv_astore (lv' := [(5, .ref q9), (0, .ref qa), (1, .int p0), (2, .int p1), (3, .int p2), (4, .ref qo)]) hx hb dL_worstSlew_15 hl (by decide) rfl (fun ls hl => ?_)
    refine lv_iconst (v := 1) hx hb dL_worstSlew_17 (by decide) ?_
    refine vx_ret ?_
    exact W.iret (v := (1 : Int32)) hx hb hr (fun t h9 hW => ⟨⟨1, ((c0, of) : CS × (Nat → Int64)), rfl, Or.inr ⟨rfl, hXE, rfl⟩, by rw [h9]; exact hP, hD⟩, hS.F h9⟩) hS.2.2 dL_worstSlew_18
  · refine lv_i2l hx hb dL_worstSlew_10 rfl ?_
    refine va_last hx hb hK hP hD hS 0 2 rfl rfl (vp_in_nI (n := 0) (by decide) (by decide)) dL_worstSlew_11 (fun H locs hP hD hS => ?_)
    refine lv_goto (tgt := 19) hx hb dL_worstSlew_12 (by decide) ?_
    refine lv_iconst (v := 0) hx hb dL_worstSlew_19 (by decide) ?_
    refine vx_ret ?_
    exact W.iret (v := (0 : Int32)) hx hb hr (fun t h9 hW => ⟨⟨0, ((u, vp_updL of (0 : Int32).toNatClampNeg r.toInt64) : CS × (Nat → Int64)), rfl, Or.inl ⟨rfl, r, hw, rfl⟩, by rw [h9]; exact hP, hD⟩, hS.F h9⟩) hS.2.2 dL_worstSlew_20
abbrev wqL_event : List Cond := Cond.codeWith yL_event cL_event 5 (some .int) [(0, 10, 13, 13), (0, 10, 17, 15)] :: wB
set_option maxHeartbeats 1000000 in
set_option maxRecDepth 100000 in
theorem HL_event (l : Launch) (dC : Nat → ClassId) (dI : Nat → Nat → Nat) (cyI cyS cyJ : ClassId) (qa qo : Nat) (fs : List Value) (w1 : CS → va_W) (c0 : CS) (hq : (w1 c0)[0]? = some (qa, .inr (8, fs))) (P0 : Int32 → CS → Prop) (XE : String → Prop) (of : Nat → Int64) (p0 : Int32) (p1 : Int32)
    (hM : ∀ sz, vx_Met l yX8_event wqX8_event ({ frames := 7, cells := 2, slots := 12, locals := 104 } : Room) (va_Pc [.ref qa, .int p0, .int p1] (pC (dC, dI) (w1 c0) [(cyI, .int), (cyS, .object RX5)] eX sz)) (va_Qi P0 (fun (u : CS) t => va_P (dC, dI) vwCl (w1 u) t.heap ∧ va_D (va_A (w1 c0) sz) (w1 u)) (va_A (w1 c0) sz)) (vx_X (fun _ : Unit => True) (fun E _ _ => XE E) aF) 2 12 (va_A (w1 c0) sz))
    (hX : ∀ E, XE E → E = nIO ∨ E = nIA) (sz : Nat) :
    vx_Met l yL_event wqL_event ({ frames := 8, cells := 2, slots := 12, locals := 126 } : Room) (va_Pc [.ref qa, .int p0, .int p1, .ref qo] (pC (dC, dI) ((qo, .inl (cyJ, 1, .inr (.inl of))) :: w1 c0) [(cyI, .int), (cyS, .object RX5), (cyJ, .long)] eX sz)) (va_Qi (fun r (u : CS × (Nat → Int64)) => (r = 0 ∧ ∃ v, P0 v u.1 ∧ u.2 0 = v.toInt64) ∨ (r = 1 ∧ XE nIO ∧ u.1 = c0) ∨ (r = 2 ∧ XE nIA ∧ u.1 = c0)) (fun (u : CS × (Nat → Int64)) t => va_P (dC, dI) vwCl ((qo, .inl (cyJ, 1, .inr (.inl u.2))) :: w1 u.1) t.heap ∧ va_D (va_A ((qo, .inl (cyJ, 1, .inr (.inl of))) :: w1 c0) sz) ((qo, .inl (cyJ, 1, .inr (.inl u.2))) :: w1 u.1)) (va_A ((qo, .inl (cyJ, 1, .inr (.inl of))) :: w1 c0) sz)) (vx_X (fun _ : Unit => False) (fun _ _ _ => True) aF) 2 12 (va_A ((qo, .inl (cyJ, 1, .inr (.inl of))) :: w1 c0) sz) := by
  refine vx_ofWH (cc := cL_event) (maxL := 5) (ret := (some .int)) (by decide) rfl ?_
  intro p e s m args below meth c s₁ B9 hml hv
  obtain ⟨rfl, hsz, hP, hK, hD0, he⟩ := hv
  have hx := B9.exec
  have hb := B9.bytes
  have hr := B9.returns
  have hts := atoms_spec (ws := wqL_event) B9.pre
  have hown : s.vm.findClass RL = some m.cls := findClass_of_methodNamed B9.named
  have w_0 := hts (Cond.classLink RL 13 "java/lang/IndexOutOfBoundsException") (List.mem_cons_of_mem _ b_103)
  have w_1 := hts (Cond.classLink RL 15 "java/lang/IllegalArgumentException") (List.mem_cons_of_mem _ b_104)
  subst hsz
  have hD := hD0.self (sz := s.heap.size)
  generalize hAe : va_A ((qo, .inl (cyJ, 1, .inr (.inl of))) :: w1 c0) s.heap.size = A at hD he ⊢
  have hA : ∀ q : Nat, s.heap.size ≤ q → A q := fun q h => by rw [← hAe]; exact Or.inr h
  have hS : va_S A s.heap s.heap [] := va_S.rf
  have hl := lv_entry ([.ref qa, .int p0, .int p1, .ref qo] : List Value) (n := 5) (Nat.le_of_ble_eq_true rfl)
  rw [lg_entry_eq]
  generalize (lg_sl ([.ref qa, .int p0, .int p1, .ref qo] : List Value) ++ List.replicate (5 - (lg_sl ([.ref qa, .int p0, .int p1, .ref qo] : List Value)).length) Slot.unset).toArray = ls at hl ⊢
  have hl : lv_has ls 5 [(0, .ref qa), (1, .int p0), (2, .int p1), (3, .ref qo)] := hl
  refine lv_aload_n hx hb dL_event_0 rfl (lv_at hl 3 rfl) ?_
  refine lv_iconst (v := 0) hx hb dL_event_1 (by decide) ?_
  refine lv_aload_n hx hb dL_event_2 rfl (lv_at hl 0 rfl) ?_
  refine lv_iload_n hx hb dL_event_3 rfl (lv_at hl 1 rfl) ?_
  refine lv_iload_n hx hb dL_event_4 rfl (lv_at hl 2 rfl) ?_
  have hPg : va_P (dC, dI) vwCl (w1 c0) s.heap := xt_P.mpr fun q hq => xt_P.mp hP q (List.mem_cons_of_mem _ hq)
  have hDg : va_D A (w1 c0) := xt_D.mpr ⟨(List.nodup_cons.mp (by rw [← List.map_cons (f := fun q : Nat × va_E => q.1)]; exact (xt_D.mp hD).1)).2, fun q hq => (xt_D.mp hD).2 q (List.mem_cons_of_mem _ hq)⟩
  refine hx_call (XE := XE) (vx_runV (As := [.int p0, .int p1]) (rest := [.int (0 : Int32), .ref qo]) ⟨hx, hb, hml, hown, hts⟩ (hM s.heap.size) (cwV 2 hts (gBV b_857 b_858 b_859 b_2 b_860) rfl rfl rfl (by decide +kernel) ⟨Nat.le_of_ble_eq_true rfl, Nat.le_of_ble_eq_true rfl⟩) (prm_v eX_ok he hS hPg hDg (hK.sub (tys' := [(cyI, .int), (cyS, .object RX5)]) [0, 1] rfl) (fun q hq => by rcases hq with ⟨k, e9, h9⟩ | h9; exact (xt_D.mp hD).2 (q, e9) (List.mem_cons_of_mem _ (List.mem_of_getElem? h9)); exact hA q h9) 0 hq rfl rfl) rfl rfl hl.1 rfl (lv_room (Nat.le_of_ble_eq_true rfl)) dL_event_5 ⟨Nat.le_of_ble_eq_true rfl, Nat.le_of_ble_eq_true rfl⟩) hP hD hS hA (fun E ce q9 H locs hXE hP hS hce hcv hcl => ?_) (fun r u H locs hw hP hD hS => ?_)
  · have htab : c.exceptionTable.toList = tableOf [(0, 10, 13, 13), (0, 10, 17, 15)] := vx_table (x := yL_event) B9 (hts _ List.mem_cons_self)
    rcases hX E hXE with rfl | rfl
    · refine vx_catch (name := nIO) hown ((tableOf [(0, 10, 13, 13), (0, 10, 17, 15)]).take 0) ((tableOf [(0, 10, 13, 13), (0, 10, 17, 15)]).get ⟨0, by decide⟩) ((tableOf [(0, 10, 13, 13), (0, 10, 17, 15)]).drop 1) (by rw [htab]; rfl) (fun z hz => by cases hz) (by decide) (by decide) w_0 (va_Nw.use rfl (he.exc.2.1 _ (by decide))) hce hcv hcl ?_
      refine lv_astore (lv' := [(4, .ref q9), (0, .ref qa), (1, .int p0), (2, .int p1), (3, .ref qo)]) hx hb dL_event_13 hl (by decide) rfl (fun ls hl => ?_)
      refine lv_iconst (v := 1) hx hb dL_event_15 (by decide) ?_
      refine vx_ret ?_
      exact W.iret (v := (1 : Int32)) hx hb hr (fun t h9 hW => ⟨⟨1, ((c0, of) : CS × (Nat → Int64)), rfl, Or.inr (Or.inl ⟨rfl, hXE, rfl⟩), by rw [h9]; exact hP, hD⟩, hS.F h9⟩) hS.2.2 dL_event_16
    · refine vx_catch (name := nIA) hown ((tableOf [(0, 10, 13, 13), (0, 10, 17, 15)]).take 1) ((tableOf [(0, 10, 13, 13), (0, 10, 17, 15)]).get ⟨1, by decide⟩) ((tableOf [(0, 10, 13, 13), (0, 10, 17, 15)]).drop 2) (by rw [htab]; rfl) (fun z hz => Or.inr (by rcases List.mem_singleton.mp hz with rfl; exact ⟨(by decide : (13 : Nat) ≠ 0), nIO, w_0, he.exc.2.2.1⟩)) (by decide) (by decide) w_1 (va_Nw.use rfl (he.exc.2.1 _ (by decide))) hce hcv hcl ?_
      refine lv_astore (lv' := [(4, .ref q9), (0, .ref qa), (1, .int p0), (2, .int p1), (3, .ref qo)]) hx hb dL_event_17 hl (by decide) rfl (fun ls hl => ?_)
      refine lv_iconst (v := 2) hx hb dL_event_19 (by decide) ?_
      refine vx_ret ?_
      exact W.iret (v := (2 : Int32)) hx hb hr (fun t h9 hW => ⟨⟨2, ((c0, of) : CS × (Nat → Int64)), rfl, Or.inr (Or.inr ⟨rfl, hXE, rfl⟩), by rw [h9]; exact hP, hD⟩, hS.F h9⟩) hS.2.2 dL_event_20
  · refine lv_i2l hx hb dL_event_8 rfl ?_
    refine va_last hx hb hK hP hD hS 0 2 rfl rfl (vp_in_nI (n := 0) (by decide) (by decide)) dL_event_9 (fun H locs hP hD hS => ?_)
    refine lv_goto (tgt := 21) hx hb dL_event_10 (by decide) ?_
    refine lv_iconst (v := 0) hx hb dL_event_21 (by decide) ?_
    refine vx_ret ?_
    exact W.iret (v := (0 : Int32)) hx hb hr (fun t h9 hW => ⟨⟨0, ((u, vp_updL of (0 : Int32).toNatClampNeg r.toInt64) : CS × (Nat → Int64)), rfl, Or.inl ⟨rfl, r, hw, rfl⟩, by rw [h9]; exact hP, hD⟩, hS.F h9⟩) hS.2.2 dL_event_22
abbrev wqL_stateTime : List Cond := Cond.codeWith yL_stateTime cL_stateTime 4 (some .int) [(0, 9, 12, 15)] :: wB
set_option maxHeartbeats 1000000 in
set_option maxRecDepth 100000 in
theorem HL_stateTime (l : Launch) (dC : Nat → ClassId) (dI : Nat → Nat → Nat) (cyI cyS cyJ : ClassId) (qa qo : Nat) (fs : List Value) (w1 : CS → va_W) (c0 : CS) (hq : (w1 c0)[0]? = some (qa, .inr (8, fs))) (P0 : Int32 → CS → Prop) (XE : String → Prop) (of : Nat → Int64) (p0 : Int32)
    (hM : ∀ sz, vx_Met l yX8_stateTime wqX8_stateTime ({ frames := 7, cells := 1, slots := 6, locals := 104 } : Room) (va_Pc [.ref qa, .int p0] (pC (dC, dI) (w1 c0) [(cyI, .int), (cyS, .object RX5)] eX sz)) (va_Qi P0 (fun (u : CS) t => va_P (dC, dI) vwCl (w1 u) t.heap ∧ va_D (va_A (w1 c0) sz) (w1 u)) (va_A (w1 c0) sz)) (vx_X (fun _ : Unit => True) (fun E _ _ => XE E) aF) 1 6 (va_A (w1 c0) sz))
    (hX : ∀ E, XE E → E = nIA) (sz : Nat) :
    vx_Met l yL_stateTime wqL_stateTime ({ frames := 8, cells := 1, slots := 6, locals := 125 } : Room) (va_Pc [.ref qa, .int p0, .ref qo] (pC (dC, dI) ((qo, .inl (cyJ, 1, .inr (.inl of))) :: w1 c0) [(cyI, .int), (cyS, .object RX5), (cyJ, .long)] eX sz)) (va_Qi (fun r (u : CS × (Nat → Int64)) => (r = 0 ∧ ∃ v, P0 v u.1 ∧ u.2 0 = v.toInt64) ∨ (r = 1 ∧ XE nIA ∧ u.1 = c0)) (fun (u : CS × (Nat → Int64)) t => va_P (dC, dI) vwCl ((qo, .inl (cyJ, 1, .inr (.inl u.2))) :: w1 u.1) t.heap ∧ va_D (va_A ((qo, .inl (cyJ, 1, .inr (.inl of))) :: w1 c0) sz) ((qo, .inl (cyJ, 1, .inr (.inl u.2))) :: w1 u.1)) (va_A ((qo, .inl (cyJ, 1, .inr (.inl of))) :: w1 c0) sz)) (vx_X (fun _ : Unit => False) (fun _ _ _ => True) aF) 1 6 (va_A ((qo, .inl (cyJ, 1, .inr (.inl of))) :: w1 c0) sz) := by
  refine vx_ofWH (cc := cL_stateTime) (maxL := 4) (ret := (some .int)) (by decide) rfl ?_
  intro p e s m args below meth c s₁ B9 hml hv
  obtain ⟨rfl, hsz, hP, hK, hD0, he⟩ := hv
  have hx := B9.exec
  have hb := B9.bytes
  have hr := B9.returns
  have hts := atoms_spec (ws := wqL_stateTime) B9.pre
  have hown : s.vm.findClass RL = some m.cls := findClass_of_methodNamed B9.named
  have w_0 := hts (Cond.classLink RL 15 "java/lang/IllegalArgumentException") (List.mem_cons_of_mem _ b_104)
  subst hsz
  have hD := hD0.self (sz := s.heap.size)
  generalize hAe : va_A ((qo, .inl (cyJ, 1, .inr (.inl of))) :: w1 c0) s.heap.size = A at hD he ⊢
  have hA : ∀ q : Nat, s.heap.size ≤ q → A q := fun q h => by rw [← hAe]; exact Or.inr h
  have hS : va_S A s.heap s.heap [] := va_S.rf
  have hl := lv_entry ([.ref qa, .int p0, .ref qo] : List Value) (n := 4) (Nat.le_of_ble_eq_true rfl)
  rw [lg_entry_eq]
  generalize (lg_sl ([.ref qa, .int p0, .ref qo] : List Value) ++ List.replicate (4 - (lg_sl ([.ref qa, .int p0, .ref qo] : List Value)).length) Slot.unset).toArray = ls at hl ⊢
  have hl : lv_has ls 4 [(0, .ref qa), (1, .int p0), (2, .ref qo)] := hl
  refine lv_aload_n hx hb dL_stateTime_0 rfl (lv_at hl 2 rfl) ?_
  refine lv_iconst (v := 0) hx hb dL_stateTime_1 (by decide) ?_
  refine lv_aload_n hx hb dL_stateTime_2 rfl (lv_at hl 0 rfl) ?_
  refine lv_iload_n hx hb dL_stateTime_3 rfl (lv_at hl 1 rfl) ?_
  have hPg : va_P (dC, dI) vwCl (w1 c0) s.heap := xt_P.mpr fun q hq => xt_P.mp hP q (List.mem_cons_of_mem _ hq)
  have hDg : va_D A (w1 c0) := xt_D.mpr ⟨(List.nodup_cons.mp (by rw [← List.map_cons (f := fun q : Nat × va_E => q.1)]; exact (xt_D.mp hD).1)).2, fun q hq => (xt_D.mp hD).2 q (List.mem_cons_of_mem _ hq)⟩
  refine hx_call (XE := XE) (vx_runV (As := [.int p0]) (rest := [.int (0 : Int32), .ref qo]) ⟨hx, hb, hml, hown, hts⟩ (hM s.heap.size) (cwV 1 hts (gBV b_872 b_873 b_874 b_2 b_875) rfl rfl rfl (by decide +kernel) ⟨Nat.le_of_ble_eq_true rfl, Nat.le_of_ble_eq_true rfl⟩) (prm_v eX_ok he hS hPg hDg (hK.sub (tys' := [(cyI, .int), (cyS, .object RX5)]) [0, 1] rfl) (fun q hq => by rcases hq with ⟨k, e9, h9⟩ | h9; exact (xt_D.mp hD).2 (q, e9) (List.mem_cons_of_mem _ (List.mem_of_getElem? h9)); exact hA q h9) 0 hq rfl rfl) rfl rfl hl.1 rfl (lv_room (Nat.le_of_ble_eq_true rfl)) dL_stateTime_4 ⟨Nat.le_of_ble_eq_true rfl, Nat.le_of_ble_eq_true rfl⟩) hP hD hS hA (fun E ce q9 H locs hXE hP hS hce hcv hcl => ?_) (fun r u H locs hw hP hD hS => ?_)
  · have htab : c.exceptionTable.toList = tableOf [(0, 9, 12, 15)] := vx_table (x := yL_stateTime) B9 (hts _ List.mem_cons_self)
    have hE := hX E hXE
    subst hE
    refine vx_catch (name := nIA) hown ((tableOf [(0, 9, 12, 15)]).take 0) ((tableOf [(0, 9, 12, 15)]).get ⟨0, by decide⟩) ((tableOf [(0, 9, 12, 15)]).drop 1) (by rw [htab]; rfl) (fun z hz => by cases hz) (by decide) (by decide) w_0 (va_Nw.use rfl (he.exc.2.1 _ (by decide))) hce hcv hcl ?_
    refine lv_astore_n (lv' := [(3, .ref q9), (0, .ref qa), (1, .int p0), (2, .ref qo)]) hx hb dL_stateTime_12 rfl hl (by decide) rfl (fun ls hl => ?_)
    refine lv_iconst (v := 1) hx hb dL_stateTime_13 (by decide) ?_
    refine vx_ret ?_
    exact W.iret (v := (1 : Int32)) hx hb hr (fun t h9 hW => ⟨⟨1, ((c0, of) : CS × (Nat → Int64)), rfl, Or.inr ⟨rfl, hXE, rfl⟩, by rw [h9]; exact hP, hD⟩, hS.F h9⟩) hS.2.2 dL_stateTime_14
  · refine lv_i2l hx hb dL_stateTime_7 rfl ?_
    refine va_last hx hb hK hP hD hS 0 2 rfl rfl (vp_in_nI (n := 0) (by decide) (by decide)) dL_stateTime_8 (fun H locs hP hD hS => ?_)
    refine lv_goto (tgt := 15) hx hb dL_stateTime_9 (by decide) ?_
    refine lv_iconst (v := 0) hx hb dL_stateTime_15 (by decide) ?_
    refine vx_ret ?_
    exact W.iret (v := (0 : Int32)) hx hb hr (fun t h9 hW => ⟨⟨0, ((u, vp_updL of (0 : Int32).toNatClampNeg r.toInt64) : CS × (Nat → Int64)), rfl, Or.inl ⟨rfl, r, hw, rfl⟩, by rw [h9]; exact hP, hD⟩, hS.F h9⟩) hS.2.2 dL_stateTime_16
abbrev wqL_lifts : List Cond := Cond.codeWith yL_lifts cL_lifts 4 (some .int) [(0, 9, 12, 15)] :: wB
set_option maxHeartbeats 1000000 in
set_option maxRecDepth 100000 in
theorem HL_lifts (l : Launch) (dC : Nat → ClassId) (dI : Nat → Nat → Nat) (cyI cyS cyJ : ClassId) (qa qo : Nat) (fs : List Value) (w1 : CS → va_W) (c0 : CS) (hq : (w1 c0)[0]? = some (qa, .inr (8, fs))) (P0 : Int32 → CS → Prop) (XE : String → Prop) (of : Nat → Int64) (p0 : Int32)
    (hM : ∀ sz, vx_Met l yX8_lifts wqX8_lifts ({ frames := 7, cells := 1, slots := 6, locals := 104 } : Room) (va_Pc [.ref qa, .int p0] (pC (dC, dI) (w1 c0) [(cyI, .int), (cyS, .object RX5)] eX sz)) (va_Qi P0 (fun (u : CS) t => va_P (dC, dI) vwCl (w1 u) t.heap ∧ va_D (va_A (w1 c0) sz) (w1 u)) (va_A (w1 c0) sz)) (vx_X (fun _ : Unit => True) (fun E _ _ => XE E) aF) 1 6 (va_A (w1 c0) sz))
    (hX : ∀ E, XE E → E = nIA) (sz : Nat) :
    vx_Met l yL_lifts wqL_lifts ({ frames := 8, cells := 1, slots := 6, locals := 125 } : Room) (va_Pc [.ref qa, .int p0, .ref qo] (pC (dC, dI) ((qo, .inl (cyJ, 1, .inr (.inl of))) :: w1 c0) [(cyI, .int), (cyS, .object RX5), (cyJ, .long)] eX sz)) (va_Qi (fun r (u : CS × (Nat → Int64)) => (r = 0 ∧ ∃ v, P0 v u.1 ∧ u.2 0 = v.toInt64) ∨ (r = 1 ∧ XE nIA ∧ u.1 = c0)) (fun (u : CS × (Nat → Int64)) t => va_P (dC, dI) vwCl ((qo, .inl (cyJ, 1, .inr (.inl u.2))) :: w1 u.1) t.heap ∧ va_D (va_A ((qo, .inl (cyJ, 1, .inr (.inl of))) :: w1 c0) sz) ((qo, .inl (cyJ, 1, .inr (.inl u.2))) :: w1 u.1)) (va_A ((qo, .inl (cyJ, 1, .inr (.inl of))) :: w1 c0) sz)) (vx_X (fun _ : Unit => False) (fun _ _ _ => True) aF) 1 6 (va_A ((qo, .inl (cyJ, 1, .inr (.inl of))) :: w1 c0) sz) := by
  refine vx_ofWH (cc := cL_lifts) (maxL := 4) (ret := (some .int)) (by decide) rfl ?_
  intro p e s m args below meth c s₁ B9 hml hv
  obtain ⟨rfl, hsz, hP, hK, hD0, he⟩ := hv
  have hx := B9.exec
  have hb := B9.bytes
  have hr := B9.returns
  have hts := atoms_spec (ws := wqL_lifts) B9.pre
  have hown : s.vm.findClass RL = some m.cls := findClass_of_methodNamed B9.named
  have w_0 := hts (Cond.classLink RL 15 "java/lang/IllegalArgumentException") (List.mem_cons_of_mem _ b_104)
  subst hsz
  have hD := hD0.self (sz := s.heap.size)
  generalize hAe : va_A ((qo, .inl (cyJ, 1, .inr (.inl of))) :: w1 c0) s.heap.size = A at hD he ⊢
  have hA : ∀ q : Nat, s.heap.size ≤ q → A q := fun q h => by rw [← hAe]; exact Or.inr h
  have hS : va_S A s.heap s.heap [] := va_S.rf
  have hl := lv_entry ([.ref qa, .int p0, .ref qo] : List Value) (n := 4) (Nat.le_of_ble_eq_true rfl)
  rw [lg_entry_eq]
  generalize (lg_sl ([.ref qa, .int p0, .ref qo] : List Value) ++ List.replicate (4 - (lg_sl ([.ref qa, .int p0, .ref qo] : List Value)).length) Slot.unset).toArray = ls at hl ⊢
  have hl : lv_has ls 4 [(0, .ref qa), (1, .int p0), (2, .ref qo)] := hl
  refine lv_aload_n hx hb dL_lifts_0 rfl (lv_at hl 2 rfl) ?_
  refine lv_iconst (v := 0) hx hb dL_lifts_1 (by decide) ?_
  refine lv_aload_n hx hb dL_lifts_2 rfl (lv_at hl 0 rfl) ?_
  refine lv_iload_n hx hb dL_lifts_3 rfl (lv_at hl 1 rfl) ?_
  have hPg : va_P (dC, dI) vwCl (w1 c0) s.heap := xt_P.mpr fun q hq => xt_P.mp hP q (List.mem_cons_of_mem _ hq)
  have hDg : va_D A (w1 c0) := xt_D.mpr ⟨(List.nodup_cons.mp (by rw [← List.map_cons (f := fun q : Nat × va_E => q.1)]; exact (xt_D.mp hD).1)).2, fun q hq => (xt_D.mp hD).2 q (List.mem_cons_of_mem _ hq)⟩
  refine hx_call (XE := XE) (vx_runV (As := [.int p0]) (rest := [.int (0 : Int32), .ref qo]) ⟨hx, hb, hml, hown, hts⟩ (hM s.heap.size) (cwV 1 hts (gBV b_885 b_886 b_887 b_2 b_888) rfl rfl rfl (by decide +kernel) ⟨Nat.le_of_ble_eq_true rfl, Nat.le_of_ble_eq_true rfl⟩) (prm_v eX_ok he hS hPg hDg (hK.sub (tys' := [(cyI, .int), (cyS, .object RX5)]) [0, 1] rfl) (fun q hq => by rcases hq with ⟨k, e9, h9⟩ | h9; exact (xt_D.mp hD).2 (q, e9) (List.mem_cons_of_mem _ (List.mem_of_getElem? h9)); exact hA q h9) 0 hq rfl rfl) rfl rfl hl.1 rfl (lv_room (Nat.le_of_ble_eq_true rfl)) dL_lifts_4 ⟨Nat.le_of_ble_eq_true rfl, Nat.le_of_ble_eq_true rfl⟩) hP hD hS hA (fun E ce q9 H locs hXE hP hS hce hcv hcl => ?_) (fun r u H locs hw hP hD hS => ?_)
  · have htab : c.exceptionTable.toList = tableOf [(0, 9, 12, 15)] := vx_table (x := yL_lifts) B9 (hts _ List.mem_cons_self)
    have hE := hX E hXE
    subst hE
    refine vx_catch (name := nIA) hown ((tableOf [(0, 9, 12, 15)]).take 0) ((tableOf [(0, 9, 12, 15)]).get ⟨0, by decide⟩) ((tableOf [(0, 9, 12, 15)]).drop 1) (by rw [htab]; rfl) (fun z hz => by cases hz) (by decide) (by decide) w_0 (va_Nw.use rfl (he.exc.2.1 _ (by decide))) hce hcv hcl ?_
    refine lv_astore_n (lv' := [(3, .ref q9), (0, .ref qa), (1, .int p0), (2, .ref qo)]) hx hb dL_lifts_12 rfl hl (by decide) rfl (fun ls hl => ?_)
    refine lv_iconst (v := 1) hx hb dL_lifts_13 (by decide) ?_
    refine vx_ret ?_
    exact W.iret (v := (1 : Int32)) hx hb hr (fun t h9 hW => ⟨⟨1, ((c0, of) : CS × (Nat → Int64)), rfl, Or.inr ⟨rfl, hXE, rfl⟩, by rw [h9]; exact hP, hD⟩, hS.F h9⟩) hS.2.2 dL_lifts_14
  · refine lv_i2l hx hb dL_lifts_7 rfl ?_
    refine va_last hx hb hK hP hD hS 0 2 rfl rfl (vp_in_nI (n := 0) (by decide) (by decide)) dL_lifts_8 (fun H locs hP hD hS => ?_)
    refine lv_goto (tgt := 15) hx hb dL_lifts_9 (by decide) ?_
    refine lv_iconst (v := 0) hx hb dL_lifts_15 (by decide) ?_
    refine vx_ret ?_
    exact W.iret (v := (0 : Int32)) hx hb hr (fun t h9 hW => ⟨⟨0, ((u, vp_updL of (0 : Int32).toNatClampNeg r.toInt64) : CS × (Nat → Int64)), rfl, Or.inl ⟨rfl, r, hw, rfl⟩, by rw [h9]; exact hP, hD⟩, hS.F h9⟩) hS.2.2 dL_lifts_16
abbrev wqL_type : List Cond := Cond.codeWith yL_type cL_type 4 (some .int) [(0, 9, 12, 15), (0, 9, 15, 31)] :: wB
set_option maxHeartbeats 1000000 in
set_option maxRecDepth 100000 in
theorem HL_type (l : Launch) (dC : Nat → ClassId) (dI : Nat → Nat → Nat) (cyI cyS cyJ : ClassId) (qa qo : Nat) (fs : List Value) (w1 : CS → va_W) (c0 : CS) (hq : (w1 c0)[0]? = some (qa, .inr (8, fs))) (P0 : Int32 → CS → Prop) (XE : String → Prop) (of : Nat → Int64) (p0 : Int32)
    (hM : ∀ sz, vx_Met l yX8_type wqX8_type ({ frames := 7, cells := 2, slots := 12, locals := 104 } : Room) (va_Pc [.ref qa, .int p0] (pC (dC, dI) (w1 c0) [(cyI, .int), (cyS, .object RX5)] eX sz)) (va_Qi P0 (fun (u : CS) t => va_P (dC, dI) vwCl (w1 u) t.heap ∧ va_D (va_A (w1 c0) sz) (w1 u)) (va_A (w1 c0) sz)) (vx_X (fun _ : Unit => True) (fun E _ _ => XE E) aF) 2 12 (va_A (w1 c0) sz))
    (hX : ∀ E, XE E → E = nIA ∨ E = nIS) (sz : Nat) :
    vx_Met l yL_type wqL_type ({ frames := 8, cells := 2, slots := 12, locals := 125 } : Room) (va_Pc [.ref qa, .int p0, .ref qo] (pC (dC, dI) ((qo, .inl (cyJ, 1, .inr (.inl of))) :: w1 c0) [(cyI, .int), (cyS, .object RX5), (cyJ, .long)] eX sz)) (va_Qi (fun r (u : CS × (Nat → Int64)) => (r = 0 ∧ ∃ v, P0 v u.1 ∧ u.2 0 = v.toInt64) ∨ (r = 1 ∧ XE nIA ∧ u.1 = c0) ∨ (r = 2 ∧ XE nIS ∧ u.1 = c0)) (fun (u : CS × (Nat → Int64)) t => va_P (dC, dI) vwCl ((qo, .inl (cyJ, 1, .inr (.inl u.2))) :: w1 u.1) t.heap ∧ va_D (va_A ((qo, .inl (cyJ, 1, .inr (.inl of))) :: w1 c0) sz) ((qo, .inl (cyJ, 1, .inr (.inl u.2))) :: w1 u.1)) (va_A ((qo, .inl (cyJ, 1, .inr (.inl of))) :: w1 c0) sz)) (vx_X (fun _ : Unit => False) (fun _ _ _ => True) aF) 2 12 (va_A ((qo, .inl (cyJ, 1, .inr (.inl of))) :: w1 c0) sz) := by
  refine vx_ofWH (cc := cL_type) (maxL := 4) (ret := (some .int)) (by decide) rfl ?_
  intro p e s m args below meth c s₁ B9 hml hv
  obtain ⟨rfl, hsz, hP, hK, hD0, he⟩ := hv
  have hx := B9.exec
  have hb := B9.bytes
  have hr := B9.returns
  have hts := atoms_spec (ws := wqL_type) B9.pre
  have hown : s.vm.findClass RL = some m.cls := findClass_of_methodNamed B9.named
  have w_0 := hts (Cond.classLink RL 15 "java/lang/IllegalArgumentException") (List.mem_cons_of_mem _ b_104)
  have w_1 := hts (Cond.classLink RL 31 "java/lang/IllegalStateException") (List.mem_cons_of_mem _ b_292)
  subst hsz
  have hD := hD0.self (sz := s.heap.size)
  generalize hAe : va_A ((qo, .inl (cyJ, 1, .inr (.inl of))) :: w1 c0) s.heap.size = A at hD he ⊢
  have hA : ∀ q : Nat, s.heap.size ≤ q → A q := fun q h => by rw [← hAe]; exact Or.inr h
  have hS : va_S A s.heap s.heap [] := va_S.rf
  have hl := lv_entry ([.ref qa, .int p0, .ref qo] : List Value) (n := 4) (Nat.le_of_ble_eq_true rfl)
  rw [lg_entry_eq]
  generalize (lg_sl ([.ref qa, .int p0, .ref qo] : List Value) ++ List.replicate (4 - (lg_sl ([.ref qa, .int p0, .ref qo] : List Value)).length) Slot.unset).toArray = ls at hl ⊢
  have hl : lv_has ls 4 [(0, .ref qa), (1, .int p0), (2, .ref qo)] := hl
  refine lv_aload_n hx hb dL_type_0 rfl (lv_at hl 2 rfl) ?_
  refine lv_iconst (v := 0) hx hb dL_type_1 (by decide) ?_
  refine lv_aload_n hx hb dL_type_2 rfl (lv_at hl 0 rfl) ?_
  refine lv_iload_n hx hb dL_type_3 rfl (lv_at hl 1 rfl) ?_
  have hPg : va_P (dC, dI) vwCl (w1 c0) s.heap := xt_P.mpr fun q hq => xt_P.mp hP q (List.mem_cons_of_mem _ hq)
  have hDg : va_D A (w1 c0) := xt_D.mpr ⟨(List.nodup_cons.mp (by rw [← List.map_cons (f := fun q : Nat × va_E => q.1)]; exact (xt_D.mp hD).1)).2, fun q hq => (xt_D.mp hD).2 q (List.mem_cons_of_mem _ hq)⟩
  refine hx_call (XE := XE) (vx_runV (As := [.int p0]) (rest := [.int (0 : Int32), .ref qo]) ⟨hx, hb, hml, hown, hts⟩ (hM s.heap.size) (cwV 1 hts (gBV b_912 b_913 b_914 b_2 b_915) rfl rfl rfl (by decide +kernel) ⟨Nat.le_of_ble_eq_true rfl, Nat.le_of_ble_eq_true rfl⟩) (prm_v eX_ok he hS hPg hDg (hK.sub (tys' := [(cyI, .int), (cyS, .object RX5)]) [0, 1] rfl) (fun q hq => by rcases hq with ⟨k, e9, h9⟩ | h9; exact (xt_D.mp hD).2 (q, e9) (List.mem_cons_of_mem _ (List.mem_of_getElem? h9)); exact hA q h9) 0 hq rfl rfl) rfl rfl hl.1 rfl (lv_room (Nat.le_of_ble_eq_true rfl)) dL_type_4 ⟨Nat.le_of_ble_eq_true rfl, Nat.le_of_ble_eq_true rfl⟩) hP hD hS hA (fun E ce q9 H locs hXE hP hS hce hcv hcl => ?_) (fun r u H locs hw hP hD hS => ?_)
  · have htab : c.exceptionTable.toList = tableOf [(0, 9, 12, 15), (0, 9, 15, 31)] := vx_table (x := yL_type) B9 (hts _ List.mem_cons_self)
    rcases hX E hXE with rfl | rfl
    · refine vx_catch (name := nIA) hown ((tableOf [(0, 9, 12, 15), (0, 9, 15, 31)]).take 0) ((tableOf [(0, 9, 12, 15), (0, 9, 15, 31)]).get ⟨0, by decide⟩) ((tableOf [(0, 9, 12, 15), (0, 9, 15, 31)]).drop 1) (by rw [htab]; rfl) (fun z hz => by cases hz) (by decide) (by decide) w_0 (va_Nw.use rfl (he.exc.2.1 _ (by decide))) hce hcv hcl ?_
      refine lv_astore_n (lv' := [(3, .ref q9), (0, .ref qa), (1, .int p0), (2, .ref qo)]) hx hb dL_type_12 rfl hl (by decide) rfl (fun ls hl => ?_)
      refine lv_iconst (v := 1) hx hb dL_type_13 (by decide) ?_
      refine vx_ret ?_
      exact W.iret (v := (1 : Int32)) hx hb hr (fun t h9 hW => ⟨⟨1, ((c0, of) : CS × (Nat → Int64)), rfl, Or.inr (Or.inl ⟨rfl, hXE, rfl⟩), by rw [h9]; exact hP, hD⟩, hS.F h9⟩) hS.2.2 dL_type_14
    · refine vx_catch (name := nIS) hown ((tableOf [(0, 9, 12, 15), (0, 9, 15, 31)]).take 1) ((tableOf [(0, 9, 12, 15), (0, 9, 15, 31)]).get ⟨1, by decide⟩) ((tableOf [(0, 9, 12, 15), (0, 9, 15, 31)]).drop 2) (by rw [htab]; rfl) (fun z hz => Or.inr (by rcases List.mem_singleton.mp hz with rfl; exact ⟨(by decide : (15 : Nat) ≠ 0), nIA, w_0, he.exc.2.2.2⟩)) (by decide) (by decide) w_1 (va_Nw.use rfl (he.exc.2.1 _ (by decide))) hce hcv hcl ?_
      refine lv_astore_n (lv' := [(3, .ref q9), (0, .ref qa), (1, .int p0), (2, .ref qo)]) hx hb dL_type_15 rfl hl (by decide) rfl (fun ls hl => ?_)
      refine lv_iconst (v := 2) hx hb dL_type_16 (by decide) ?_
      refine vx_ret ?_
      exact W.iret (v := (2 : Int32)) hx hb hr (fun t h9 hW => ⟨⟨2, ((c0, of) : CS × (Nat → Int64)), rfl, Or.inr (Or.inr ⟨rfl, hXE, rfl⟩), by rw [h9]; exact hP, hD⟩, hS.F h9⟩) hS.2.2 dL_type_17
  · refine lv_i2l hx hb dL_type_7 rfl ?_
    refine va_last hx hb hK hP hD hS 0 2 rfl rfl (vp_in_nI (n := 0) (by decide) (by decide)) dL_type_8 (fun H locs hP hD hS => ?_)
    refine lv_goto (tgt := 18) hx hb dL_type_9 (by decide) ?_
    refine lv_iconst (v := 0) hx hb dL_type_18 (by decide) ?_
    refine vx_ret ?_
    exact W.iret (v := (0 : Int32)) hx hb hr (fun t h9 hW => ⟨⟨0, ((u, vp_updL of (0 : Int32).toNatClampNeg r.toInt64) : CS × (Nat → Int64)), rfl, Or.inl ⟨rfl, r, hw, rfl⟩, by rw [h9]; exact hP, hD⟩, hS.F h9⟩) hS.2.2 dL_type_19
abbrev wqL_undo : List Cond := Cond.codeWith yL_undo cL_undo 3 (some .int) [(0, 8, 11, 31)] :: wB
set_option maxHeartbeats 1000000 in
set_option maxRecDepth 100000 in
theorem HL_undo (l : Launch) (dC : Nat → ClassId) (dI : Nat → Nat → Nat) (cyI cyS cyJ : ClassId) (qa qo : Nat) (fs : List Value) (w1 : CS → va_W) (c0 : CS) (hq : (w1 c0)[0]? = some (qa, .inr (8, fs))) (P0 : Int32 → CS → Prop) (XE : String → Prop) (of : Nat → Int64)
    (hM : ∀ sz, vx_Met l yX8_undo wqX8_undo ({ frames := 7, cells := 1, slots := 6, locals := 102 } : Room) (va_Pc [.ref qa] (pC (dC, dI) (w1 c0) [(cyI, .int), (cyS, .object RX5)] eX sz)) (va_Qi P0 (fun (u : CS) t => va_P (dC, dI) vwCl (w1 u) t.heap ∧ va_D (va_A (w1 c0) sz) (w1 u)) (va_A (w1 c0) sz)) (vx_X (fun _ : Unit => True) (fun E _ _ => XE E) aF) 1 6 (va_A (w1 c0) sz))
    (hX : ∀ E, XE E → E = nIS) (sz : Nat) :
    vx_Met l yL_undo wqL_undo ({ frames := 8, cells := 1, slots := 6, locals := 123 } : Room) (va_Pc [.ref qa, .ref qo] (pC (dC, dI) ((qo, .inl (cyJ, 1, .inr (.inl of))) :: w1 c0) [(cyI, .int), (cyS, .object RX5), (cyJ, .long)] eX sz)) (va_Qi (fun r (u : CS × (Nat → Int64)) => (r = 0 ∧ ∃ v, P0 v u.1 ∧ u.2 0 = v.toInt64) ∨ (r = 1 ∧ XE nIS ∧ u.1 = c0)) (fun (u : CS × (Nat → Int64)) t => va_P (dC, dI) vwCl ((qo, .inl (cyJ, 1, .inr (.inl u.2))) :: w1 u.1) t.heap ∧ va_D (va_A ((qo, .inl (cyJ, 1, .inr (.inl of))) :: w1 c0) sz) ((qo, .inl (cyJ, 1, .inr (.inl u.2))) :: w1 u.1)) (va_A ((qo, .inl (cyJ, 1, .inr (.inl of))) :: w1 c0) sz)) (vx_X (fun _ : Unit => False) (fun _ _ _ => True) aF) 1 6 (va_A ((qo, .inl (cyJ, 1, .inr (.inl of))) :: w1 c0) sz) := by
  refine vx_ofWH (cc := cL_undo) (maxL := 3) (ret := (some .int)) (by decide) rfl ?_
  intro p e s m args below meth c s₁ B9 hml hv
  obtain ⟨rfl, hsz, hP, hK, hD0, he⟩ := hv
  have hx := B9.exec
  have hb := B9.bytes
  have hr := B9.returns
  have hts := atoms_spec (ws := wqL_undo) B9.pre
  have hown : s.vm.findClass RL = some m.cls := findClass_of_methodNamed B9.named
  have w_0 := hts (Cond.classLink RL 31 "java/lang/IllegalStateException") (List.mem_cons_of_mem _ b_292)
  subst hsz
  have hD := hD0.self (sz := s.heap.size)
  generalize hAe : va_A ((qo, .inl (cyJ, 1, .inr (.inl of))) :: w1 c0) s.heap.size = A at hD he ⊢
  have hA : ∀ q : Nat, s.heap.size ≤ q → A q := fun q h => by rw [← hAe]; exact Or.inr h
  have hS : va_S A s.heap s.heap [] := va_S.rf
  have hl := lv_entry ([.ref qa, .ref qo] : List Value) (n := 3) (Nat.le_of_ble_eq_true rfl)
  rw [lg_entry_eq]
  generalize (lg_sl ([.ref qa, .ref qo] : List Value) ++ List.replicate (3 - (lg_sl ([.ref qa, .ref qo] : List Value)).length) Slot.unset).toArray = ls at hl ⊢
  have hl : lv_has ls 3 [(0, .ref qa), (1, .ref qo)] := hl
  refine lv_aload_n hx hb dL_undo_0 rfl (lv_at hl 1 rfl) ?_
  refine lv_iconst (v := 0) hx hb dL_undo_1 (by decide) ?_
  refine lv_aload_n hx hb dL_undo_2 rfl (lv_at hl 0 rfl) ?_
  have hPg : va_P (dC, dI) vwCl (w1 c0) s.heap := xt_P.mpr fun q hq => xt_P.mp hP q (List.mem_cons_of_mem _ hq)
  have hDg : va_D A (w1 c0) := xt_D.mpr ⟨(List.nodup_cons.mp (by rw [← List.map_cons (f := fun q : Nat × va_E => q.1)]; exact (xt_D.mp hD).1)).2, fun q hq => (xt_D.mp hD).2 q (List.mem_cons_of_mem _ hq)⟩
  refine hx_call (XE := XE) (vx_runV (As := []) (rest := [.int (0 : Int32), .ref qo]) ⟨hx, hb, hml, hown, hts⟩ (hM s.heap.size) (cwV 0 hts (gBV b_1007 b_1008 b_1009 b_2 b_1010) rfl rfl rfl (by decide +kernel) ⟨Nat.le_of_ble_eq_true rfl, Nat.le_of_ble_eq_true rfl⟩) (prm_v eX_ok he hS hPg hDg (hK.sub (tys' := [(cyI, .int), (cyS, .object RX5)]) [0, 1] rfl) (fun q hq => by rcases hq with ⟨k, e9, h9⟩ | h9; exact (xt_D.mp hD).2 (q, e9) (List.mem_cons_of_mem _ (List.mem_of_getElem? h9)); exact hA q h9) 0 hq rfl rfl) rfl rfl hl.1 rfl (lv_room (Nat.le_of_ble_eq_true rfl)) dL_undo_3 ⟨Nat.le_of_ble_eq_true rfl, Nat.le_of_ble_eq_true rfl⟩) hP hD hS hA (fun E ce q9 H locs hXE hP hS hce hcv hcl => ?_) (fun r u H locs hw hP hD hS => ?_)
  · have htab : c.exceptionTable.toList = tableOf [(0, 8, 11, 31)] := vx_table (x := yL_undo) B9 (hts _ List.mem_cons_self)
    have hE := hX E hXE
    subst hE
    refine vx_catch (name := nIS) hown ((tableOf [(0, 8, 11, 31)]).take 0) ((tableOf [(0, 8, 11, 31)]).get ⟨0, by decide⟩) ((tableOf [(0, 8, 11, 31)]).drop 1) (by rw [htab]; rfl) (fun z hz => by cases hz) (by decide) (by decide) w_0 (va_Nw.use rfl (he.exc.2.1 _ (by decide))) hce hcv hcl ?_
    refine lv_astore_n (lv' := [(2, .ref q9), (0, .ref qa), (1, .ref qo)]) hx hb dL_undo_11 rfl hl (by decide) rfl (fun ls hl => ?_)
    refine lv_iconst (v := 1) hx hb dL_undo_12 (by decide) ?_
    refine vx_ret ?_
    exact W.iret (v := (1 : Int32)) hx hb hr (fun t h9 hW => ⟨⟨1, ((c0, of) : CS × (Nat → Int64)), rfl, Or.inr ⟨rfl, hXE, rfl⟩, by rw [h9]; exact hP, hD⟩, hS.F h9⟩) hS.2.2 dL_undo_13
  · refine lv_i2l hx hb dL_undo_6 rfl ?_
    refine va_last hx hb hK hP hD hS 0 2 rfl rfl (vp_in_nI (n := 0) (by decide) (by decide)) dL_undo_7 (fun H locs hP hD hS => ?_)
    refine lv_goto (tgt := 14) hx hb dL_undo_8 (by decide) ?_
    refine lv_iconst (v := 0) hx hb dL_undo_14 (by decide) ?_
    refine vx_ret ?_
    exact W.iret (v := (0 : Int32)) hx hb hr (fun t h9 hW => ⟨⟨0, ((u, vp_updL of (0 : Int32).toNatClampNeg r.toInt64) : CS × (Nat → Int64)), rfl, Or.inl ⟨rfl, r, hw, rfl⟩, by rw [h9]; exact hP, hD⟩, hS.F h9⟩) hS.2.2 dL_undo_15

