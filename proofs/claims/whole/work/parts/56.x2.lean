def x_X1_belowL_j21 (k3_4 : Nat) (rec4 : Int32 → Nat → (Int32)) (v2_21 : Int32) : Int32 :=
  rec4 v2_21 (k3_4 + 1)
def x_X1_belowL_b4 (va : Int32) (rec4 : Int32 → Nat → (Int32)) : Int32 → Nat → (Int32) :=
  fun v2_4 k3_4 => if (4 - 1) ≤ k3_4 then v2_4 else (if va < (tLen (k3_4)) then (x_X1_belowL_j21 k3_4 rec4 v2_4) else (x_X1_belowL_j21 k3_4 rec4 (nI k3_4)))
def x_X1_belowL (va : Int32) : Int32 :=
  spIter (fun _ _ => default) (x_X1_belowL_b4 va) 4 (0 : Int32) 1
set_option maxHeartbeats 1000000 in
set_option maxRecDepth 100000 in
theorem c_X1_belowL (l : Launch) (dC : Nat → ClassId) (dI : Nat → Nat → Nat) (cyI : ClassId) (ad : Nat) (va : Int32) : Met l yX1_below wqX1_below ({ frames := 0, cells := 0, slots := 0, locals := 0 } : Room) (va_Pc [.ref ad, .int va] (pB (dC, dI) [] [] (eAnd eX (eTT ad 4 tLen)))) (vp_Si (fun r => r = (x_X1_belowL va))) 0 0 aF := by
  refine Met.ofW (cc := cX1_below) (maxL := 4) (ret := (some .int)) (by decide) rfl ?_
  intro p e s m args below meth c s₁ B hml hv
  obtain ⟨rfl, hP, hK, he⟩ := hv
  have hx := B.exec
  have hb := B.bytes
  have hr := B.returns
  have hts := atoms_spec (ws := wqX1_below) B.pre
  have hown : s.vm.findClass RX1 = some m.cls := findClass_of_methodNamed B.named
  have hlocks := B.notSynchronized
  have hS : va_S aF s.heap s.heap [] := va_S.rf
  have hP : va_P (dC, dI) vwCl [] s.heap := hP
  have hl := lv_entry ([.ref ad, .int va] : List Value) (n := 4) (Nat.le_of_ble_eq_true rfl)
  rw [lg_entry_eq]
  generalize (lg_sl ([.ref ad, .int va] : List Value) ++ List.replicate (4 - (lg_sl ([.ref ad, .int va] : List Value)).length) Slot.unset).toArray = ls at hl ⊢
  have hl : lv_has ls 4 [(0, .ref ad), (1, .int va)] := hl
  have hE : x_X1_belowL va = x_X1_belowL va := rfl
  refine lv_iconst (v := 0) hx hb dX1_below_0 (by decide) ?_
  refine lv_istore_n (lv' := [(2, .int (0 : Int32)), (0, .ref ad), (1, .int va)]) hx hb dX1_below_1 rfl hl (by decide) rfl (fun ls hl => ?_)
  refine lv_iconst (v := 1) hx hb dX1_below_2 (by decide) ?_
  refine lv_istore_n (lv' := [(3, .int (1 : Int32)), (2, .int (0 : Int32)), (0, .ref ad), (1, .int va)]) hx hb dX1_below_3 rfl hl (by decide) rfl (fun ls hl => ?_)
  have L4 : ∀ (n4 : Nat) (v2_4 : Int32) (k3_4 : Nat) (hi : k3_4 ≤ 3 ∧ 3 < k3_4 + n4) (ls : Array Slot) (hl : lv_has ls 4 [(0, .ref ad), (1, .int va), (2, .int v2_4), (3, .int (nI k3_4))]) (hE : (x_X1_belowL va) = spIter (fun _ _ => default) (x_X1_belowL_b4 va) n4 v2_4 k3_4), W p l e (headSpec wqX1_below ({ frames := 0, cells := 0, slots := 0, locals := 0 } : Room)).room s m ([.ref ad, .int va] : List Value).toArray below meth c s.heap [] 0 0 (MQ below (vp_Si (fun r => r = (x_X1_belowL va))) ([.ref ad, .int va] : List Value).toArray s 0 0 aF) (F0 m 4 ls []) := by
    intro n4
    induction n4 with
    | zero =>
      intro v2_4 k3_4 hi ls hl hE
      exact absurd hi (by omega)
    | succ n4 ih4 =>
      intro v2_4 k3_4 hi ls hl hE
      have hE : (x_X1_belowL va) = x_X1_belowL_b4 va (spIter (fun _ _ => default) (x_X1_belowL_b4 va) n4) v2_4 k3_4 := hE
      refine lv_iload_n hx hb dX1_below_4 rfl (lv_at hl 3 rfl) ?_
      refine lv_aload_n hx hb dX1_below_5 rfl (lv_at hl 0 rfl) ?_
      refine rt_len (v := 4) hx hb he.2 hS rfl dX1_below_6 ?_
      refine lv_iconst (v := 1) hx hb dX1_below_7 (by decide) ?_
      refine lv_isub hx hb dX1_below_8 ?_
      refine lv_icmp_ge (tgt := 27) hx hb dX1_below_9 (by decide) (fun c_1 => ?_) (fun c_1 => ?_)
      ·
        have c_1 : (4 - 1) ≤ k3_4 := by
          have h1 : ((nI k3_4)) = nI k3_4 := rfl
          have h2 : (((4 : Int32) - (1 : Int32))) = nI (4 - 1) := (nsub (rfl : (4 : Int32) = nI 4) (rfl : (1 : Int32) = nI 1) (by omega))
          have h3 : (nI (4 - 1) ≤ nI k3_4) := by first | exact c_1 | (rw [← h1, ← h2]; exact c_1)
          exact (nI_leI (by omega) (by omega)).mp h3
        have hE := hE.trans (if_pos c_1)
        refine lv_iload_n hx hb dX1_below_27 rfl (lv_at hl 2 rfl) ?_
        exact W.iret (v := v2_4) hx hb hr (fun t ht hW => ⟨_, rfl, hE.symm, ht⟩) (fun q h => by cases h) dX1_below_28
      ·
        have c_1 : ¬ (4 - 1) ≤ k3_4 := by
          have h1 : ((nI k3_4)) = nI k3_4 := rfl
          have h2 : (((4 : Int32) - (1 : Int32))) = nI (4 - 1) := (nsub (rfl : (4 : Int32) = nI 4) (rfl : (1 : Int32) = nI 1) (by omega))
          have h3 : ¬ (nI (4 - 1) ≤ nI k3_4) := by first | exact c_1 | (rw [← h1, ← h2]; exact c_1)
          exact fun h => h3 ((nI_leI (by omega) (by omega)).mpr h)
        have hE := hE.trans (if_neg c_1)
        refine lv_aload_n hx hb dX1_below_12 rfl (lv_at hl 0 rfl) ?_
        refine lv_iload_n hx hb dX1_below_13 rfl (lv_at hl 3 rfl) ?_
        refine rt_ld hx hb he.2 hS (j := k3_4) (rfl : (nI k3_4) = nI k3_4) (by omega) (by omega) dX1_below_14 ?_
        refine lv_iload_n hx hb dX1_below_15 rfl (lv_at hl 1 rfl) ?_
        have J21 : ∀ (v2_21 : Int32) (ls : Array Slot) (hl : lv_has ls 4 [(0, .ref ad), (1, .int va), (2, .int v2_21), (3, .int (nI k3_4))]) (hE : (x_X1_belowL va) = x_X1_belowL_j21 k3_4 (spIter (fun _ _ => default) (x_X1_belowL_b4 va) n4) v2_21), W p l e (headSpec wqX1_below ({ frames := 0, cells := 0, slots := 0, locals := 0 } : Room)).room s m ([.ref ad, .int va] : List Value).toArray below meth c s.heap [] 0 0 (MQ below (vp_Si (fun r => r = (x_X1_belowL va))) ([.ref ad, .int va] : List Value).toArray s 0 0 aF) (F0 m 21 ls []) := by
          intro v2_21 ls hl hE
          refine lv_iinc (v := (nI (k3_4 + 1))) (lv' := [(3, .int (nI (k3_4 + 1))), (0, .ref ad), (1, .int va), (2, .int v2_21)]) hx hb dX1_below_21 hl (k := 3) rfl (show _ from (congrArg (fun z => z + Int32.ofInt 1) (rfl)).trans (ninc _ 1)) (by decide) rfl (fun ls hl => ?_)
          refine lv_goto (tgt := 4) hx hb dX1_below_24 (by decide) ?_
          exact ih4 v2_21 (k3_4 + 1) (by omega) ls (lv_sub hl [1, 2, 3, 0] rfl) hE
        refine lv_icmp_gt (tgt := 21) hx hb dX1_below_16 (by decide) (fun c_2 => ?_) (fun c_2 => ?_)
        ·
          have hE := hE.trans (if_pos c_2)
          exact J21 v2_4 ls (lv_sub hl [0, 1, 2, 3] rfl) hE
        ·
          have hE := hE.trans (if_neg c_2)
          refine lv_iload_n hx hb dX1_below_19 rfl (lv_at hl 3 rfl) ?_
          refine lv_istore_n (lv' := [(2, .int (nI k3_4)), (0, .ref ad), (1, .int va), (3, .int (nI k3_4))]) hx hb dX1_below_20 rfl hl (by decide) rfl (fun ls hl => ?_)
          exact J21 (nI k3_4) ls (lv_sub hl [1, 2, 0, 3] rfl) hE
  exact L4 4 (0 : Int32) 1 (by omega) ls (lv_sub hl [2, 3, 1, 0] rfl) hE
def x_X1_belowR_j21 (k3_4 : Nat) (rec4 : Int32 → Nat → (Int32)) (v2_21 : Int32) : Int32 :=
  rec4 v2_21 (k3_4 + 1)
def x_X1_belowR_b4 (va : Int32) (rec4 : Int32 → Nat → (Int32)) : Int32 → Nat → (Int32) :=
  fun v2_4 k3_4 => if (6 - 1) ≤ k3_4 then v2_4 else (if va < (tRad (k3_4)) then (x_X1_belowR_j21 k3_4 rec4 v2_4) else (x_X1_belowR_j21 k3_4 rec4 (nI k3_4)))
def x_X1_belowR (va : Int32) : Int32 :=
  spIter (fun _ _ => default) (x_X1_belowR_b4 va) 6 (0 : Int32) 1
set_option maxHeartbeats 1000000 in
set_option maxRecDepth 100000 in
theorem c_X1_belowR (l : Launch) (dC : Nat → ClassId) (dI : Nat → Nat → Nat) (cyI : ClassId) (ad : Nat) (va : Int32) : Met l yX1_below wqX1_below ({ frames := 0, cells := 0, slots := 0, locals := 0 } : Room) (va_Pc [.ref ad, .int va] (pB (dC, dI) [] [] (eAnd eX (eTT ad 6 tRad)))) (vp_Si (fun r => r = (x_X1_belowR va))) 0 0 aF := by
  refine Met.ofW (cc := cX1_below) (maxL := 4) (ret := (some .int)) (by decide) rfl ?_
  intro p e s m args below meth c s₁ B hml hv
  obtain ⟨rfl, hP, hK, he⟩ := hv
  have hx := B.exec
  have hb := B.bytes
  have hr := B.returns
  have hts := atoms_spec (ws := wqX1_below) B.pre
  have hown : s.vm.findClass RX1 = some m.cls := findClass_of_methodNamed B.named
  have hlocks := B.notSynchronized
  have hS : va_S aF s.heap s.heap [] := va_S.rf
  have hP : va_P (dC, dI) vwCl [] s.heap := hP
  have hl := lv_entry ([.ref ad, .int va] : List Value) (n := 4) (Nat.le_of_ble_eq_true rfl)
  rw [lg_entry_eq]
  generalize (lg_sl ([.ref ad, .int va] : List Value) ++ List.replicate (4 - (lg_sl ([.ref ad, .int va] : List Value)).length) Slot.unset).toArray = ls at hl ⊢
  have hl : lv_has ls 4 [(0, .ref ad), (1, .int va)] := hl
  have hE : x_X1_belowR va = x_X1_belowR va := rfl
  refine lv_iconst (v := 0) hx hb dX1_below_0 (by decide) ?_
  refine lv_istore_n (lv' := [(2, .int (0 : Int32)), (0, .ref ad), (1, .int va)]) hx hb dX1_below_1 rfl hl (by decide) rfl (fun ls hl => ?_)
  refine lv_iconst (v := 1) hx hb dX1_below_2 (by decide) ?_
  refine lv_istore_n (lv' := [(3, .int (1 : Int32)), (2, .int (0 : Int32)), (0, .ref ad), (1, .int va)]) hx hb dX1_below_3 rfl hl (by decide) rfl (fun ls hl => ?_)
  have L4 : ∀ (n4 : Nat) (v2_4 : Int32) (k3_4 : Nat) (hi : k3_4 ≤ 5 ∧ 5 < k3_4 + n4) (ls : Array Slot) (hl : lv_has ls 4 [(0, .ref ad), (1, .int va), (2, .int v2_4), (3, .int (nI k3_4))]) (hE : (x_X1_belowR va) = spIter (fun _ _ => default) (x_X1_belowR_b4 va) n4 v2_4 k3_4), W p l e (headSpec wqX1_below ({ frames := 0, cells := 0, slots := 0, locals := 0 } : Room)).room s m ([.ref ad, .int va] : List Value).toArray below meth c s.heap [] 0 0 (MQ below (vp_Si (fun r => r = (x_X1_belowR va))) ([.ref ad, .int va] : List Value).toArray s 0 0 aF) (F0 m 4 ls []) := by
    intro n4
    induction n4 with
    | zero =>
      intro v2_4 k3_4 hi ls hl hE
      exact absurd hi (by omega)
    | succ n4 ih4 =>
      intro v2_4 k3_4 hi ls hl hE
      have hE : (x_X1_belowR va) = x_X1_belowR_b4 va (spIter (fun _ _ => default) (x_X1_belowR_b4 va) n4) v2_4 k3_4 := hE
      refine lv_iload_n hx hb dX1_below_4 rfl (lv_at hl 3 rfl) ?_
      refine lv_aload_n hx hb dX1_below_5 rfl (lv_at hl 0 rfl) ?_
      refine rt_len (v := 6) hx hb he.2 hS rfl dX1_below_6 ?_
      refine lv_iconst (v := 1) hx hb dX1_below_7 (by decide) ?_
      refine lv_isub hx hb dX1_below_8 ?_
      refine lv_icmp_ge (tgt := 27) hx hb dX1_below_9 (by decide) (fun c_1 => ?_) (fun c_1 => ?_)
      ·
        have c_1 : (6 - 1) ≤ k3_4 := by
          have h1 : ((nI k3_4)) = nI k3_4 := rfl
          have h2 : (((6 : Int32) - (1 : Int32))) = nI (6 - 1) := (nsub (rfl : (6 : Int32) = nI 6) (rfl : (1 : Int32) = nI 1) (by omega))
          have h3 : (nI (6 - 1) ≤ nI k3_4) := by first | exact c_1 | (rw [← h1, ← h2]; exact c_1)
          exact (nI_leI (by omega) (by omega)).mp h3
        have hE := hE.trans (if_pos c_1)
        refine lv_iload_n hx hb dX1_below_27 rfl (lv_at hl 2 rfl) ?_
        exact W.iret (v := v2_4) hx hb hr (fun t ht hW => ⟨_, rfl, hE.symm, ht⟩) (fun q h => by cases h) dX1_below_28
      ·
        have c_1 : ¬ (6 - 1) ≤ k3_4 := by
          have h1 : ((nI k3_4)) = nI k3_4 := rfl
          have h2 : (((6 : Int32) - (1 : Int32))) = nI (6 - 1) := (nsub (rfl : (6 : Int32) = nI 6) (rfl : (1 : Int32) = nI 1) (by omega))
          have h3 : ¬ (nI (6 - 1) ≤ nI k3_4) := by first | exact c_1 | (rw [← h1, ← h2]; exact c_1)
          exact fun h => h3 ((nI_leI (by omega) (by omega)).mpr h)
        have hE := hE.trans (if_neg c_1)
        refine lv_aload_n hx hb dX1_below_12 rfl (lv_at hl 0 rfl) ?_
        refine lv_iload_n hx hb dX1_below_13 rfl (lv_at hl 3 rfl) ?_
        refine rt_ld hx hb he.2 hS (j := k3_4) (rfl : (nI k3_4) = nI k3_4) (by omega) (by omega) dX1_below_14 ?_
        refine lv_iload_n hx hb dX1_below_15 rfl (lv_at hl 1 rfl) ?_
        have J21 : ∀ (v2_21 : Int32) (ls : Array Slot) (hl : lv_has ls 4 [(0, .ref ad), (1, .int va), (2, .int v2_21), (3, .int (nI k3_4))]) (hE : (x_X1_belowR va) = x_X1_belowR_j21 k3_4 (spIter (fun _ _ => default) (x_X1_belowR_b4 va) n4) v2_21), W p l e (headSpec wqX1_below ({ frames := 0, cells := 0, slots := 0, locals := 0 } : Room)).room s m ([.ref ad, .int va] : List Value).toArray below meth c s.heap [] 0 0 (MQ below (vp_Si (fun r => r = (x_X1_belowR va))) ([.ref ad, .int va] : List Value).toArray s 0 0 aF) (F0 m 21 ls []) := by
          intro v2_21 ls hl hE
          refine lv_iinc (v := (nI (k3_4 + 1))) (lv' := [(3, .int (nI (k3_4 + 1))), (0, .ref ad), (1, .int va), (2, .int v2_21)]) hx hb dX1_below_21 hl (k := 3) rfl (show _ from (congrArg (fun z => z + Int32.ofInt 1) (rfl)).trans (ninc _ 1)) (by decide) rfl (fun ls hl => ?_)
          refine lv_goto (tgt := 4) hx hb dX1_below_24 (by decide) ?_
          exact ih4 v2_21 (k3_4 + 1) (by omega) ls (lv_sub hl [1, 2, 3, 0] rfl) hE
        refine lv_icmp_gt (tgt := 21) hx hb dX1_below_16 (by decide) (fun c_2 => ?_) (fun c_2 => ?_)
        ·
          have hE := hE.trans (if_pos c_2)
          exact J21 v2_4 ls (lv_sub hl [0, 1, 2, 3] rfl) hE
        ·
          have hE := hE.trans (if_neg c_2)
          refine lv_iload_n hx hb dX1_below_19 rfl (lv_at hl 3 rfl) ?_
          refine lv_istore_n (lv' := [(2, .int (nI k3_4)), (0, .ref ad), (1, .int va), (3, .int (nI k3_4))]) hx hb dX1_below_20 rfl hl (by decide) rfl (fun ls hl => ?_)
          exact J21 (nI k3_4) ls (lv_sub hl [1, 2, 0, 3] rfl) hE
  exact L4 6 (0 : Int32) 1 (by omega) ls (lv_sub hl [2, 3, 1, 0] rfl) hE
def x_X3_slotOf (go : Int32) (ix : Int32) : Int32 :=
  spLet (j_J9_floorMod_7cf53 (go + ix) (30 : Int32)) (fun r_1 => r_1)
set_option maxHeartbeats 1000000 in
set_option maxRecDepth 100000 in
theorem c_X3_slotOf (l : Launch) (dC : Nat → ClassId) (dI : Nat → Nat → Nat) (cyI : ClassId) (qg : Nat) (qgt : Nat) (qgk : Nat) (qgv : Nat) (go : Int32) (gc : Int32) (gt : Nat → Int32) (gk : Nat → Int32) (gv : Nat → Int32) (ix : Int32) : Met l yX3_slotOf wqX3_slotOf ({ frames := 1, cells := 0, slots := 0, locals := 22 } : Room) (va_Pc [.ref qg, .int ix] (pB (dC, dI) [(qg, .inr (3, [.ref qgt, .ref qgk, .ref qgv, .int go, .int gc])), (qgt, .inl (cyI, 30, .inl gt)), (qgk, .inl (cyI, 30, .inl gk)), (qgv, .inl (cyI, 30, .inl gv))] [(cyI, .int)] eX)) (vp_Si (fun r => r = (x_X3_slotOf go ix))) 0 0 aF := by
  refine Met.ofW (cc := cX3_slotOf) (maxL := 2) (ret := (some .int)) (by decide) rfl ?_
  intro p e s m args below meth c s₁ B hml hv
  obtain ⟨rfl, hP, hK, he⟩ := hv
  have hx := B.exec
  have hb := B.bytes
  have hr := B.returns
  have hts := atoms_spec (ws := wqX3_slotOf) B.pre
  have hown : s.vm.findClass RX3 = some m.cls := findClass_of_methodNamed B.named
  have hlocks := B.notSynchronized
  have w_0 := hts (Cond.fieldLink RX3 25 "CraneLimiter$Log" "oldest" "I") (List.mem_cons_of_mem _ b_166)
  have i_X3 : ∀ w ∈ u_ws RX3 TX3 5, w ∈ wqX3_slotOf := fun w h => List.mem_cons_of_mem _ (bX3 w h)
  have hS : va_S aF s.heap s.heap [] := va_S.rf
  have hP : va_P (dC, dI) vwCl [(qg, .inr (3, [.ref qgt, .ref qgk, .ref qgv, .int go, .int gc])), (qgt, .inl (cyI, 30, .inl gt)), (qgk, .inl (cyI, 30, .inl gk)), (qgv, .inl (cyI, 30, .inl gv))] s.heap := hP
  have hl := lv_entry ([.ref qg, .int ix] : List Value) (n := 2) (Nat.le_of_ble_eq_true rfl)
  rw [lg_entry_eq]
  generalize (lg_sl ([.ref qg, .int ix] : List Value) ++ List.replicate (2 - (lg_sl ([.ref qg, .int ix] : List Value)).length) Slot.unset).toArray = ls at hl ⊢
  have hl : lv_has ls 2 [(0, .ref qg), (1, .int ix)] := hl
  have hE : x_X3_slotOf go ix = x_X3_slotOf go ix := rfl
  refine lv_aload_n hx hb dX3_slotOf_0 rfl (lv_at hl 0 rfl) ?_
  refine va_get (D := (dC, dI)) (ci := 3) (v := .int go) (C := RX3) (T := TX3) (N := 5) hx hb hts i_X3 hown hK hP 0 rfl rfl 3 (by decide) w_0 (fun _ h9 => h9) rfl dX3_slotOf_1 ?_
  refine lv_iload_n hx hb dX3_slotOf_4 rfl (lv_at hl 1 rfl) ?_
  refine lv_iadd hx hb dX3_slotOf_5 ?_
  refine lv_bipush (v := 30) hx hb dX3_slotOf_6 (by decide) ?_
  refine vp_callSi (W.runS (As := [.int (go + ix), .int (30 : Int32)]) (rest := []) ⟨hx, hb, hml, hown, hts⟩ (c_J9_floorMod_7cf53 l dC dI cyI (go + ix) (30 : Int32) (by decide)) (va_cwS 2 hts (gBS b_594 b_595 b_596 b_597) rfl rfl rfl (by decide +kernel) ⟨Nat.le_of_ble_eq_true rfl, Nat.le_of_ble_eq_true rfl⟩) (pre_s eM_ok (trivial : eM aF s s.heap) hS (hP.sub (ws' := []) [] rfl) (hK.sub (tys' := []) [] rfl)) rfl rfl hl.1 rfl (lv_room (Nat.le_of_ble_eq_true rfl)) dX3_slotOf_8 ⟨Nat.zero_le _, Nat.zero_le _⟩) (fun r_1 hr_1 => ?_)
  have hE := hE.trans (spLet_eq hr_1)
  exact W.iret (v := r_1) hx hb hr (fun t ht hW => ⟨_, rfl, hE.symm, ht⟩) (fun q h => by cases h) dX3_slotOf_11
def x_X1_extendOutrigger (ce : Nat → Int32) (ou : Int32) (ex : Int32) : Int32 × (Nat → Int32) :=
  if ou < 0 then (((0 : Int32), ce)) else (if ou < (4 : Int32) then (spLet ((ce ((ou).toNatClampNeg))) (fun x_3 => spLet (upd ce ((ou).toNatClampNeg) ex) (fun f_4 => (x_3, f_4)))) else (((0 : Int32), ce)))
set_option maxHeartbeats 1000000 in
set_option maxRecDepth 100000 in
theorem c_X1_extendOutrigger (l : Launch) (dC : Nat → ClassId) (dI : Nat → Nat → Nat) (cyI : ClassId) (sz : Nat) (qc : Nat) (qcv : Nat) (qce : Nat) (qcs : Nat) (cw : Int32) (cv : Nat → Int32) (ce : Nat → Int32) (cs : Nat → Int32) (ou : Int32) (ex : Int32) : Met l yX1_extendOutrigger wqX1_extendOutrigger ({ frames := 0, cells := 0, slots := 0, locals := 0 } : Room) (va_Pc [.ref qc, .int ou, .int ex] (pC (dC, dI) [(qc, .inr (1, [.ref qcv, .ref qce, .ref qcs, .int cw])), (qcv, .inl (cyI, 96, .inl cv)), (qce, .inl (cyI, 4, .inl ce)), (qcs, .inl (cyI, 4, .inl cs))] [(cyI, .int)] eX sz)) (va_Qi (fun (r : Int32) (u : Int32 × (Nat → Int32)) => u = (x_X1_extendOutrigger ce ou ex) ∧ r = u.1) (fun (u : Int32 × (Nat → Int32)) t => va_P (dC, dI) vwCl [(qc, .inr (1, [.ref qcv, .ref qce, .ref qcs, .int cw])), (qcv, .inl (cyI, 96, .inl cv)), (qce, .inl (cyI, 4, .inl (u.2))), (qcs, .inl (cyI, 4, .inl cs))] t.heap ∧ va_D (va_A [(qc, .inr (1, [.ref qcv, .ref qce, .ref qcs, .int cw])), (qcv, .inl (cyI, 96, .inl cv)), (qce, .inl (cyI, 4, .inl ce)), (qcs, .inl (cyI, 4, .inl cs))] sz) [(qc, .inr (1, [.ref qcv, .ref qce, .ref qcs, .int cw])), (qcv, .inl (cyI, 96, .inl cv)), (qce, .inl (cyI, 4, .inl (u.2))), (qcs, .inl (cyI, 4, .inl cs))]) (va_A [(qc, .inr (1, [.ref qcv, .ref qce, .ref qcs, .int cw])), (qcv, .inl (cyI, 96, .inl cv)), (qce, .inl (cyI, 4, .inl ce)), (qcs, .inl (cyI, 4, .inl cs))] sz)) 0 0 (va_A [(qc, .inr (1, [.ref qcv, .ref qce, .ref qcs, .int cw])), (qcv, .inl (cyI, 96, .inl cv)), (qce, .inl (cyI, 4, .inl ce)), (qcs, .inl (cyI, 4, .inl cs))] sz) := by
  refine Met.ofW (cc := cX1_extendOutrigger) (maxL := 4) (ret := (some .int)) (by decide) rfl ?_
  intro p e s m args below meth c s₁ B hml hv
  obtain ⟨rfl, hsz, hP, hK, hD0, he⟩ := hv
  have hx := B.exec
  have hb := B.bytes
  have hr := B.returns
  have hts := atoms_spec (ws := wqX1_extendOutrigger) B.pre
  have hown : s.vm.findClass RX1 = some m.cls := findClass_of_methodNamed B.named
  have hlocks := B.notSynchronized
  have w_0 := hts (Cond.fieldLink RX1 15 "CraneLimiter$Chart" "extensions" "[I") (List.mem_cons_of_mem _ b_63)
  have i_X1 : ∀ w ∈ u_ws RX1 TX1 4, w ∈ wqX1_extendOutrigger := fun w h => List.mem_cons_of_mem _ (bX1 w h)
  subst hsz
  have hD := hD0.self (sz := s.heap.size)
  generalize hAe : va_A [(qc, .inr (1, [.ref qcv, .ref qce, .ref qcs, .int cw])), (qcv, .inl (cyI, 96, .inl cv)), (qce, .inl (cyI, 4, .inl ce)), (qcs, .inl (cyI, 4, .inl cs))] s.heap.size = A at hD he ⊢
  have hA : ∀ q : Nat, s.heap.size ≤ q → A q := fun q h => by rw [← hAe]; exact Or.inr h
  have hS : va_S A s.heap s.heap [] := va_S.rf
  have hP : va_P (dC, dI) vwCl [(qc, .inr (1, [.ref qcv, .ref qce, .ref qcs, .int cw])), (qcv, .inl (cyI, 96, .inl cv)), (qce, .inl (cyI, 4, .inl ce)), (qcs, .inl (cyI, 4, .inl cs))] s.heap := hP
  have hl := lv_entry ([.ref qc, .int ou, .int ex] : List Value) (n := 4) (Nat.le_of_ble_eq_true rfl)
  rw [lg_entry_eq]
  generalize (lg_sl ([.ref qc, .int ou, .int ex] : List Value) ++ List.replicate (4 - (lg_sl ([.ref qc, .int ou, .int ex] : List Value)).length) Slot.unset).toArray = ls at hl ⊢
  have hl : lv_has ls 4 [(0, .ref qc), (1, .int ou), (2, .int ex)] := hl
  have hE : x_X1_extendOutrigger ce ou ex = x_X1_extendOutrigger ce ou ex := rfl
  refine lv_iload_n hx hb dX1_extendOutrigger_0 rfl (lv_at hl 1 rfl) ?_
  refine lv_if_lt (tgt := 13) hx hb dX1_extendOutrigger_1 (by decide) (fun c_1 => ?_) (fun c_1 => ?_)
  ·
    have hE := hE.trans (if_pos c_1)
    refine lv_iconst (v := 0) hx hb dX1_extendOutrigger_13 (by decide) ?_
    exact W.iret (v := (0 : Int32)) hx hb hr (fun t h9 hW => ⟨⟨(0 : Int32), (((0 : Int32), ce) : Int32 × (Nat → Int32)), rfl, ⟨hE.symm, rfl⟩, by rw [h9]; exact hP, hD⟩, hS.F h9⟩) hS.2.2 dX1_extendOutrigger_14
  ·
    have hE := hE.trans (if_neg c_1)
    refine lv_iload_n hx hb dX1_extendOutrigger_4 rfl (lv_at hl 1 rfl) ?_
    refine lv_aload_n hx hb dX1_extendOutrigger_5 rfl (lv_at hl 0 rfl) ?_
    refine va_get (D := (dC, dI)) (ci := 1) (v := .ref qce) (C := RX1) (T := TX1) (N := 4) hx hb hts i_X1 hown hK hP 0 rfl rfl 1 (by decide) w_0 (fun _ h9 => h9) rfl dX1_extendOutrigger_6 ?_
    refine va_alen (v := 4) hx hb hK hP 2 0 rfl rfl rfl dX1_extendOutrigger_9 ?_
    refine lv_icmp_lt (tgt := 15) hx hb dX1_extendOutrigger_10 (by decide) (fun c_2 => ?_) (fun c_2 => ?_)
    ·
      have hE := hE.trans (if_pos c_2)
      have hk := xin (N := 4) (n := 4) (by decide) (by assumption) (by assumption)
      have hk2 := hk.2
      refine lv_aload_n hx hb dX1_extendOutrigger_15 rfl (lv_at hl 0 rfl) ?_
      refine va_get (D := (dC, dI)) (ci := 1) (v := .ref qce) (C := RX1) (T := TX1) (N := 4) hx hb hts i_X1 hown hK hP 0 rfl rfl 1 (by decide) w_0 (fun _ h9 => h9) rfl dX1_extendOutrigger_16 ?_
      refine lv_iload_n hx hb dX1_extendOutrigger_19 rfl (lv_at hl 1 rfl) ?_
      refine ra_ld hx hb hK hP 2 0 rfl rfl (j := (ou).toNatClampNeg) hk.1 (by omega) (by omega) dX1_extendOutrigger_20 ?_
      refine lv_topi (fun x_3 ex_3 => ?_)
      have hE := hE.trans (spLet_eq ex_3)
      refine lv_istore_n (lv' := [(3, .int x_3), (0, .ref qc), (1, .int ou), (2, .int ex)]) hx hb dX1_extendOutrigger_21 rfl hl (by decide) rfl (fun ls hl => ?_)
      refine lv_aload_n hx hb dX1_extendOutrigger_22 rfl (lv_at hl 1 rfl) ?_
      refine va_get (D := (dC, dI)) (ci := 1) (v := .ref qce) (C := RX1) (T := TX1) (N := 4) hx hb hts i_X1 hown hK hP 0 rfl rfl 1 (by decide) w_0 (fun _ h9 => h9) rfl dX1_extendOutrigger_23 ?_
      refine lv_iload_n hx hb dX1_extendOutrigger_26 rfl (lv_at hl 2 rfl) ?_
      refine lv_iload_n hx hb dX1_extendOutrigger_27 rfl (lv_at hl 3 rfl) ?_
      refine ra_st hx hb hK hP hD hS 2 0 rfl rfl (j := (ou).toNatClampNeg) hk.1 (by omega) (by omega) dX1_extendOutrigger_28 (fun H locs hP hD hS => ?_)
      have hP : va_P (dC, dI) vwCl [(qc, .inr (1, [.ref qcv, .ref qce, .ref qcs, .int cw])), (qcv, .inl (cyI, 96, .inl cv)), (qce, .inl (cyI, 4, .inl (upd ce ((ou).toNatClampNeg) ex))), (qcs, .inl (cyI, 4, .inl cs))] H := hP
      have hD : va_D A [(qc, .inr (1, [.ref qcv, .ref qce, .ref qcs, .int cw])), (qcv, .inl (cyI, 96, .inl cv)), (qce, .inl (cyI, 4, .inl (upd ce ((ou).toNatClampNeg) ex))), (qcs, .inl (cyI, 4, .inl cs))] := hD
      obtain ⟨f_4, ef_4⟩ : ∃ y : Nat → Int32, y = upd ce ((ou).toNatClampNeg) ex := ⟨_, rfl⟩
      rw [← ef_4] at hP hD
      have hE := hE.trans (spLet_eq ef_4)
      refine lv_iload_n hx hb dX1_extendOutrigger_29 rfl (lv_at hl 0 rfl) ?_
      exact W.iret (v := x_3) hx hb hr (fun t h9 hW => ⟨⟨x_3, ((x_3, f_4) : Int32 × (Nat → Int32)), rfl, ⟨hE.symm, rfl⟩, by rw [h9]; exact hP, hD⟩, hS.F h9⟩) hS.2.2 dX1_extendOutrigger_30
    ·
      have hE := hE.trans (if_neg c_2)
      refine lv_iconst (v := 0) hx hb dX1_extendOutrigger_13 (by decide) ?_
      exact W.iret (v := (0 : Int32)) hx hb hr (fun t h9 hW => ⟨⟨(0 : Int32), (((0 : Int32), ce) : Int32 × (Nat → Int32)), rfl, ⟨hE.symm, rfl⟩, by rw [h9]; exact hP, hD⟩, hS.F h9⟩) hS.2.2 dX1_extendOutrigger_14
def x_X1_valueAt (cv : Nat → Int32) (ta : Int32) (ro : Int32) (co : Int32) : Int32 :=
  spLet ((((ta * (24 : Int32)) + (ro * (6 : Int32))) + co)) (fun x_1 => if x_1 < 0 then (0 : Int32) else (if (96 : Int32) ≤ x_1 then (0 : Int32) else ((cv ((x_1).toNatClampNeg)))))
set_option maxHeartbeats 1000000 in
set_option maxRecDepth 100000 in
theorem c_X1_valueAt (l : Launch) (dC : Nat → ClassId) (dI : Nat → Nat → Nat) (cyI : ClassId) (qc : Nat) (qcv : Nat) (qce : Nat) (qcs : Nat) (cw : Int32) (cv : Nat → Int32) (ce : Nat → Int32) (cs : Nat → Int32) (ta : Int32) (ro : Int32) (co : Int32) : Met l yX1_valueAt wqX1_valueAt ({ frames := 0, cells := 0, slots := 0, locals := 0 } : Room) (va_Pc [.ref qc, .int ta, .int ro, .int co] (pB (dC, dI) [(qc, .inr (1, [.ref qcv, .ref qce, .ref qcs, .int cw])), (qcv, .inl (cyI, 96, .inl cv)), (qce, .inl (cyI, 4, .inl ce)), (qcs, .inl (cyI, 4, .inl cs))] [(cyI, .int)] eX)) (vp_Si (fun r => r = (x_X1_valueAt cv ta ro co))) 0 0 aF := by
  refine Met.ofW (cc := cX1_valueAt) (maxL := 5) (ret := (some .int)) (by decide) rfl ?_
  intro p e s m args below meth c s₁ B hml hv
  obtain ⟨rfl, hP, hK, he⟩ := hv
  have hx := B.exec
  have hb := B.bytes
  have hr := B.returns
  have hts := atoms_spec (ws := wqX1_valueAt) B.pre
  have hown : s.vm.findClass RX1 = some m.cls := findClass_of_methodNamed B.named
  have hlocks := B.notSynchronized
  have w_0 := hts (Cond.fieldLink RX1 11 "CraneLimiter$Chart" "values" "[I") (List.mem_cons_of_mem _ b_62)
  have i_X1 : ∀ w ∈ u_ws RX1 TX1 4, w ∈ wqX1_valueAt := fun w h => List.mem_cons_of_mem _ (bX1 w h)
  have hS : va_S aF s.heap s.heap [] := va_S.rf
  have hP : va_P (dC, dI) vwCl [(qc, .inr (1, [.ref qcv, .ref qce, .ref qcs, .int cw])), (qcv, .inl (cyI, 96, .inl cv)), (qce, .inl (cyI, 4, .inl ce)), (qcs, .inl (cyI, 4, .inl cs))] s.heap := hP
  have hl := lv_entry ([.ref qc, .int ta, .int ro, .int co] : List Value) (n := 5) (Nat.le_of_ble_eq_true rfl)
  rw [lg_entry_eq]
  generalize (lg_sl ([.ref qc, .int ta, .int ro, .int co] : List Value) ++ List.replicate (5 - (lg_sl ([.ref qc, .int ta, .int ro, .int co] : List Value)).length) Slot.unset).toArray = ls at hl ⊢
  have hl : lv_has ls 5 [(0, .ref qc), (1, .int ta), (2, .int ro), (3, .int co)] := hl
  have hE : x_X1_valueAt cv ta ro co = x_X1_valueAt cv ta ro co := rfl
  refine lv_iload_n hx hb dX1_valueAt_0 rfl (lv_at hl 1 rfl) ?_
  refine lv_bipush (v := 24) hx hb dX1_valueAt_1 (by decide) ?_
  refine lv_imul hx hb dX1_valueAt_3 ?_
  refine lv_iload_n hx hb dX1_valueAt_4 rfl (lv_at hl 2 rfl) ?_
  refine lv_bipush (v := 6) hx hb dX1_valueAt_5 (by decide) ?_
  refine lv_imul hx hb dX1_valueAt_7 ?_
  refine lv_iadd hx hb dX1_valueAt_8 ?_
  refine lv_iload_n hx hb dX1_valueAt_9 rfl (lv_at hl 3 rfl) ?_
  refine lv_iadd hx hb dX1_valueAt_10 ?_
  refine lv_topi (fun x_1 ex_1 => ?_)
  have hE := hE.trans (spLet_eq ex_1)
  refine lv_istore (lv' := [(4, .int x_1), (0, .ref qc), (1, .int ta), (2, .int ro), (3, .int co)]) hx hb dX1_valueAt_11 hl (by decide) rfl (fun ls hl => ?_)
  refine lv_iload hx hb dX1_valueAt_13 (lv_at hl 0 rfl) ?_
  refine lv_if_lt (tgt := 38) hx hb dX1_valueAt_15 (by decide) (fun c_2 => ?_) (fun c_2 => ?_)
  ·
    have hE := hE.trans (if_pos c_2)
    refine lv_iconst (v := 0) hx hb dX1_valueAt_38 (by decide) ?_
    exact W.iret (v := (0 : Int32)) hx hb hr (fun t ht hW => ⟨_, rfl, hE.symm, ht⟩) (fun q h => by cases h) dX1_valueAt_39
  ·
    have hE := hE.trans (if_neg c_2)
    refine lv_iload hx hb dX1_valueAt_18 (lv_at hl 0 rfl) ?_
    refine lv_aload_n hx hb dX1_valueAt_20 rfl (lv_at hl 1 rfl) ?_
    refine va_get (D := (dC, dI)) (ci := 1) (v := .ref qcv) (C := RX1) (T := TX1) (N := 4) hx hb hts i_X1 hown hK hP 0 rfl rfl 0 (by decide) w_0 (fun _ h9 => h9) rfl dX1_valueAt_21 ?_
    refine va_alen (v := 96) hx hb hK hP 1 0 rfl rfl rfl dX1_valueAt_24 ?_
    refine lv_icmp_ge (tgt := 38) hx hb dX1_valueAt_25 (by decide) (fun c_3 => ?_) (fun c_3 => ?_)
    ·
      have hE := hE.trans (if_pos c_3)
      refine lv_iconst (v := 0) hx hb dX1_valueAt_38 (by decide) ?_
      exact W.iret (v := (0 : Int32)) hx hb hr (fun t ht hW => ⟨_, rfl, hE.symm, ht⟩) (fun q h => by cases h) dX1_valueAt_39
    ·
      have hE := hE.trans (if_neg c_3)
      have hk := xinG (N := 96) (n := 96) (by decide) (by assumption) (by assumption)
      have hk2 := hk.2
      refine lv_aload_n hx hb dX1_valueAt_28 rfl (lv_at hl 1 rfl) ?_
      refine va_get (D := (dC, dI)) (ci := 1) (v := .ref qcv) (C := RX1) (T := TX1) (N := 4) hx hb hts i_X1 hown hK hP 0 rfl rfl 0 (by decide) w_0 (fun _ h9 => h9) rfl dX1_valueAt_29 ?_
      refine lv_iload hx hb dX1_valueAt_32 (lv_at hl 0 rfl) ?_
      refine ra_ld hx hb hK hP 1 0 rfl rfl (j := (x_1).toNatClampNeg) hk.1 (by omega) (by omega) dX1_valueAt_34 ?_
      refine lv_goto (tgt := 39) hx hb dX1_valueAt_35 (by decide) ?_
      exact W.iret (v := (cv ((x_1).toNatClampNeg))) hx hb hr (fun t ht hW => ⟨_, rfl, hE.symm, ht⟩) (fun q h => by cases h) dX1_valueAt_39
def x_X1_putValue (cv : Nat → Int32) (ta : Int32) (ro : Int32) (co : Int32) (ma : Int32) : (Nat → Int32) :=
  spLet ((((ta * (24 : Int32)) + (ro * (6 : Int32))) + co)) (fun x_1 => if x_1 < 0 then cv else (if (96 : Int32) ≤ x_1 then cv else (spLet (upd cv ((x_1).toNatClampNeg) ma) (fun f_4 => f_4))))
set_option maxHeartbeats 1000000 in
set_option maxRecDepth 100000 in
theorem c_X1_putValue (l : Launch) (dC : Nat → ClassId) (dI : Nat → Nat → Nat) (cyI : ClassId) (sz : Nat) (qc : Nat) (qcv : Nat) (qce : Nat) (qcs : Nat) (cw : Int32) (cv : Nat → Int32) (ce : Nat → Int32) (cs : Nat → Int32) (ta : Int32) (ro : Int32) (co : Int32) (ma : Int32) : Met l yX1_putValue wqX1_putValue ({ frames := 0, cells := 0, slots := 0, locals := 0 } : Room) (va_Pc [.ref qc, .int ta, .int ro, .int co, .int ma] (pC (dC, dI) [(qc, .inr (1, [.ref qcv, .ref qce, .ref qcs, .int cw])), (qcv, .inl (cyI, 96, .inl cv)), (qce, .inl (cyI, 4, .inl ce)), (qcs, .inl (cyI, 4, .inl cs))] [(cyI, .int)] eX sz)) (va_Qv (fun u : (Nat → Int32) => u = (x_X1_putValue cv ta ro co ma)) (fun (u : (Nat → Int32)) t => va_P (dC, dI) vwCl [(qc, .inr (1, [.ref qcv, .ref qce, .ref qcs, .int cw])), (qcv, .inl (cyI, 96, .inl u)), (qce, .inl (cyI, 4, .inl ce)), (qcs, .inl (cyI, 4, .inl cs))] t.heap ∧ va_D (va_A [(qc, .inr (1, [.ref qcv, .ref qce, .ref qcs, .int cw])), (qcv, .inl (cyI, 96, .inl cv)), (qce, .inl (cyI, 4, .inl ce)), (qcs, .inl (cyI, 4, .inl cs))] sz) [(qc, .inr (1, [.ref qcv, .ref qce, .ref qcs, .int cw])), (qcv, .inl (cyI, 96, .inl u)), (qce, .inl (cyI, 4, .inl ce)), (qcs, .inl (cyI, 4, .inl cs))]) (va_A [(qc, .inr (1, [.ref qcv, .ref qce, .ref qcs, .int cw])), (qcv, .inl (cyI, 96, .inl cv)), (qce, .inl (cyI, 4, .inl ce)), (qcs, .inl (cyI, 4, .inl cs))] sz)) 0 0 (va_A [(qc, .inr (1, [.ref qcv, .ref qce, .ref qcs, .int cw])), (qcv, .inl (cyI, 96, .inl cv)), (qce, .inl (cyI, 4, .inl ce)), (qcs, .inl (cyI, 4, .inl cs))] sz) := by
  refine Met.ofW (cc := cX1_putValue) (maxL := 6) (ret := none) (by decide) rfl ?_
  intro p e s m args below meth c s₁ B hml hv
  obtain ⟨rfl, hsz, hP, hK, hD0, he⟩ := hv
  have hx := B.exec
  have hb := B.bytes
  have hr := B.returns
  have hts := atoms_spec (ws := wqX1_putValue) B.pre
  have hown : s.vm.findClass RX1 = some m.cls := findClass_of_methodNamed B.named
  have hlocks := B.notSynchronized
  have w_0 := hts (Cond.fieldLink RX1 11 "CraneLimiter$Chart" "values" "[I") (List.mem_cons_of_mem _ b_62)
  have i_X1 : ∀ w ∈ u_ws RX1 TX1 4, w ∈ wqX1_putValue := fun w h => List.mem_cons_of_mem _ (bX1 w h)
  subst hsz
  have hD := hD0.self (sz := s.heap.size)
  generalize hAe : va_A [(qc, .inr (1, [.ref qcv, .ref qce, .ref qcs, .int cw])), (qcv, .inl (cyI, 96, .inl cv)), (qce, .inl (cyI, 4, .inl ce)), (qcs, .inl (cyI, 4, .inl cs))] s.heap.size = A at hD he ⊢
  have hA : ∀ q : Nat, s.heap.size ≤ q → A q := fun q h => by rw [← hAe]; exact Or.inr h
  have hS : va_S A s.heap s.heap [] := va_S.rf
  have hP : va_P (dC, dI) vwCl [(qc, .inr (1, [.ref qcv, .ref qce, .ref qcs, .int cw])), (qcv, .inl (cyI, 96, .inl cv)), (qce, .inl (cyI, 4, .inl ce)), (qcs, .inl (cyI, 4, .inl cs))] s.heap := hP
  have hl := lv_entry ([.ref qc, .int ta, .int ro, .int co, .int ma] : List Value) (n := 6) (Nat.le_of_ble_eq_true rfl)
  rw [lg_entry_eq]
  generalize (lg_sl ([.ref qc, .int ta, .int ro, .int co, .int ma] : List Value) ++ List.replicate (6 - (lg_sl ([.ref qc, .int ta, .int ro, .int co, .int ma] : List Value)).length) Slot.unset).toArray = ls at hl ⊢
  have hl : lv_has ls 6 [(0, .ref qc), (1, .int ta), (2, .int ro), (3, .int co), (4, .int ma)] := hl
  have hE : x_X1_putValue cv ta ro co ma = x_X1_putValue cv ta ro co ma := rfl
  refine lv_iload_n hx hb dX1_putValue_0 rfl (lv_at hl 1 rfl) ?_
  refine lv_bipush (v := 24) hx hb dX1_putValue_1 (by decide) ?_
  refine lv_imul hx hb dX1_putValue_3 ?_
  refine lv_iload_n hx hb dX1_putValue_4 rfl (lv_at hl 2 rfl) ?_
  refine lv_bipush (v := 6) hx hb dX1_putValue_5 (by decide) ?_
  refine lv_imul hx hb dX1_putValue_7 ?_
  refine lv_iadd hx hb dX1_putValue_8 ?_
  refine lv_iload_n hx hb dX1_putValue_9 rfl (lv_at hl 3 rfl) ?_
  refine lv_iadd hx hb dX1_putValue_10 ?_
  refine lv_topi (fun x_1 ex_1 => ?_)
  have hE := hE.trans (spLet_eq ex_1)
  refine lv_istore (lv' := [(5, .int x_1), (0, .ref qc), (1, .int ta), (2, .int ro), (3, .int co), (4, .int ma)]) hx hb dX1_putValue_11 hl (by decide) rfl (fun ls hl => ?_)
  refine lv_iload hx hb dX1_putValue_13 (lv_at hl 0 rfl) ?_
  refine lv_if_lt (tgt := 37) hx hb dX1_putValue_15 (by decide) (fun c_2 => ?_) (fun c_2 => ?_)
  ·
    have hE := hE.trans (if_pos c_2)
    exact W.vret hx hb hr (fun t h9 hW => ⟨⟨(cv : (Nat → Int32)), rfl, hE.symm, by rw [h9]; exact hP, hD⟩, hS.F h9⟩) hS.2.2 dX1_putValue_37
  ·
    have hE := hE.trans (if_neg c_2)
    refine lv_iload hx hb dX1_putValue_18 (lv_at hl 0 rfl) ?_
    refine lv_aload_n hx hb dX1_putValue_20 rfl (lv_at hl 1 rfl) ?_
    refine va_get (D := (dC, dI)) (ci := 1) (v := .ref qcv) (C := RX1) (T := TX1) (N := 4) hx hb hts i_X1 hown hK hP 0 rfl rfl 0 (by decide) w_0 (fun _ h9 => h9) rfl dX1_putValue_21 ?_
    refine va_alen (v := 96) hx hb hK hP 1 0 rfl rfl rfl dX1_putValue_24 ?_
    refine lv_icmp_ge (tgt := 37) hx hb dX1_putValue_25 (by decide) (fun c_3 => ?_) (fun c_3 => ?_)
    ·
      have hE := hE.trans (if_pos c_3)
      exact W.vret hx hb hr (fun t h9 hW => ⟨⟨(cv : (Nat → Int32)), rfl, hE.symm, by rw [h9]; exact hP, hD⟩, hS.F h9⟩) hS.2.2 dX1_putValue_37
    ·
      have hE := hE.trans (if_neg c_3)
      have hk := xinG (N := 96) (n := 96) (by decide) (by assumption) (by assumption)
      have hk2 := hk.2
      refine lv_aload_n hx hb dX1_putValue_28 rfl (lv_at hl 1 rfl) ?_
      refine va_get (D := (dC, dI)) (ci := 1) (v := .ref qcv) (C := RX1) (T := TX1) (N := 4) hx hb hts i_X1 hown hK hP 0 rfl rfl 0 (by decide) w_0 (fun _ h9 => h9) rfl dX1_putValue_29 ?_
      refine lv_iload hx hb dX1_putValue_32 (lv_at hl 0 rfl) ?_
      refine lv_iload hx hb dX1_putValue_34 (lv_at hl 5 rfl) ?_
      refine ra_st hx hb hK hP hD hS 1 0 rfl rfl (j := (x_1).toNatClampNeg) hk.1 (by omega) (by omega) dX1_putValue_36 (fun H locs hP hD hS => ?_)
      have hP : va_P (dC, dI) vwCl [(qc, .inr (1, [.ref qcv, .ref qce, .ref qcs, .int cw])), (qcv, .inl (cyI, 96, .inl (upd cv ((x_1).toNatClampNeg) ma))), (qce, .inl (cyI, 4, .inl ce)), (qcs, .inl (cyI, 4, .inl cs))] H := hP
      have hD : va_D A [(qc, .inr (1, [.ref qcv, .ref qce, .ref qcs, .int cw])), (qcv, .inl (cyI, 96, .inl (upd cv ((x_1).toNatClampNeg) ma))), (qce, .inl (cyI, 4, .inl ce)), (qcs, .inl (cyI, 4, .inl cs))] := hD
      obtain ⟨f_4, ef_4⟩ : ∃ y : Nat → Int32, y = upd cv ((x_1).toNatClampNeg) ma := ⟨_, rfl⟩
      rw [← ef_4] at hP hD
      have hE := hE.trans (spLet_eq ef_4)
      exact W.vret hx hb hr (fun t h9 hW => ⟨⟨(f_4 : (Nat → Int32)), rfl, hE.symm, by rw [h9]; exact hP, hD⟩, hS.F h9⟩) hS.2.2 dX1_putValue_37
def x_X1_fill_b44 (ta : Int32) (k3_2 : Nat) (rec2 : Nat → (Nat → Int32) → ((Nat → Int32))) (t0_39 : Int32) (rec44 : Nat → (Nat → Int32) → ((Nat → Int32))) : Nat → (Nat → Int32) → ((Nat → Int32)) :=
  fun k6_44 w1_a_44 => if 4 ≤ k6_44 then (rec2 (k3_2 + 1) w1_a_44) else (spLet (x_X1_putValue w1_a_44 ta (nI k6_44) (nI k3_2) ((t0_39 * ((10 : Int32) - (nI k6_44))) / (10 : Int32))) (fun u_5 => rec44 (k6_44 + 1) u_5))
def x_X1_fill_j39 (ta : Int32) (k3_2 : Nat) (w1_a_2 : Nat → Int32) (rec2 : Nat → (Nat → Int32) → ((Nat → Int32))) (t0_39 : Int32) : (Nat → Int32) :=
  spIter (fun _ _ => default) (x_X1_fill_b44 ta k3_2 rec2 t0_39) 5 0 w1_a_2
def x_X1_fill_b2 (ta : Int32) (mo : Int32) (rec2 : Nat → (Nat → Int32) → ((Nat → Int32))) : Nat → (Nat → Int32) → ((Nat → Int32)) :=
  fun k3_2 w1_a_2 => if 6 ≤ k3_2 then w1_a_2 else (spLet ((tRad (k3_2))) (fun x_2 => if 0 < x_2 then (x_X1_fill_j39 ta k3_2 w1_a_2 rec2 (if (((1000 : Int32) * mo) / x_2) < (100000 : Int32) then (((1000 : Int32) * mo) / x_2) else (100000 : Int32))) else (x_X1_fill_j39 ta k3_2 w1_a_2 rec2 (0 : Int32))))
def x_X1_fill (cv : Nat → Int32) (ta : Int32) (mo : Int32) : (Nat → Int32) :=
  spIter (fun _ _ => default) (x_X1_fill_b2 ta mo) 7 0 cv
set_option maxHeartbeats 1000000 in
set_option maxRecDepth 100000 in
theorem c_X1_fill (l : Launch) (dC : Nat → ClassId) (dI : Nat → Nat → Nat) (cyI : ClassId) (sz : Nat) (qc : Nat) (qcv : Nat) (qce : Nat) (qcs : Nat) (cw : Int32) (cv : Nat → Int32) (ce : Nat → Int32) (cs : Nat → Int32) (ta : Int32) (mo : Int32) : Met l yX1_fill wqX1_fill ({ frames := 1, cells := 0, slots := 0, locals := 25 } : Room) (va_Pc [.ref qc, .int ta, .int mo] (pC (dC, dI) [(qc, .inr (1, [.ref qcv, .ref qce, .ref qcs, .int cw])), (qcv, .inl (cyI, 96, .inl cv)), (qce, .inl (cyI, 4, .inl ce)), (qcs, .inl (cyI, 4, .inl cs))] [(cyI, .int)] eX sz)) (va_Qv (fun u : (Nat → Int32) => u = (x_X1_fill cv ta mo)) (fun (u : (Nat → Int32)) t => va_P (dC, dI) vwCl [(qc, .inr (1, [.ref qcv, .ref qce, .ref qcs, .int cw])), (qcv, .inl (cyI, 96, .inl u)), (qce, .inl (cyI, 4, .inl ce)), (qcs, .inl (cyI, 4, .inl cs))] t.heap ∧ va_D (va_A [(qc, .inr (1, [.ref qcv, .ref qce, .ref qcs, .int cw])), (qcv, .inl (cyI, 96, .inl cv)), (qce, .inl (cyI, 4, .inl ce)), (qcs, .inl (cyI, 4, .inl cs))] sz) [(qc, .inr (1, [.ref qcv, .ref qce, .ref qcs, .int cw])), (qcv, .inl (cyI, 96, .inl u)), (qce, .inl (cyI, 4, .inl ce)), (qcs, .inl (cyI, 4, .inl cs))]) (va_A [(qc, .inr (1, [.ref qcv, .ref qce, .ref qcs, .int cw])), (qcv, .inl (cyI, 96, .inl cv)), (qce, .inl (cyI, 4, .inl ce)), (qcs, .inl (cyI, 4, .inl cs))] sz)) 0 0 (va_A [(qc, .inr (1, [.ref qcv, .ref qce, .ref qcs, .int cw])), (qcv, .inl (cyI, 96, .inl cv)), (qce, .inl (cyI, 4, .inl ce)), (qcs, .inl (cyI, 4, .inl cs))] sz) := by
  refine Met.ofW (cc := cX1_fill) (maxL := 7) (ret := none) (by decide) rfl ?_
  intro p e s m args below meth c s₁ B hml hv
  obtain ⟨rfl, hsz, hP, hK, hD0, he⟩ := hv
  have hx := B.exec
  have hb := B.bytes
  have hr := B.returns
  have hts := atoms_spec (ws := wqX1_fill) B.pre
  have hown : s.vm.findClass RX1 = some m.cls := findClass_of_methodNamed B.named
  have hlocks := B.notSynchronized
  have w_0 := hts (Cond.fieldLink RX1 31 "CraneLimiter$Chart" "RADII" "[I") (List.mem_cons_of_mem _ b_250)
  have w_1 := hts (Cond.constant RX1 34 (100000)) (List.mem_cons_of_mem _ b_251)
  have w_2 := hts (Cond.methodLink RX1 35 Lib.Math.min.name) (List.mem_cons_of_mem _ b_252)
  have w_3 := hts (Cond.static Lib.Math.min.name) (List.mem_cons_of_mem _ b_127)
  have w_4 := hts (Cond.initialized "java/lang/Math") (List.mem_cons_of_mem _ b_128)
  have w_5 := hts (Cond.code Lib.Math.min.name Lib.Math.min.code 2 (some .int)) (List.mem_cons_of_mem _ b_129)
  subst hsz
  have hD := hD0.self (sz := s.heap.size)
  generalize hAe : va_A [(qc, .inr (1, [.ref qcv, .ref qce, .ref qcs, .int cw])), (qcv, .inl (cyI, 96, .inl cv)), (qce, .inl (cyI, 4, .inl ce)), (qcs, .inl (cyI, 4, .inl cs))] s.heap.size = A at hD he ⊢
  have hA : ∀ q : Nat, s.heap.size ≤ q → A q := fun q h => by rw [← hAe]; exact Or.inr h
  have hS : va_S A s.heap s.heap [] := va_S.rf
  have hP : va_P (dC, dI) vwCl [(qc, .inr (1, [.ref qcv, .ref qce, .ref qcs, .int cw])), (qcv, .inl (cyI, 96, .inl cv)), (qce, .inl (cyI, 4, .inl ce)), (qcs, .inl (cyI, 4, .inl cs))] s.heap := hP
  have hl := lv_entry ([.ref qc, .int ta, .int mo] : List Value) (n := 7) (Nat.le_of_ble_eq_true rfl)
  rw [lg_entry_eq]
  generalize (lg_sl ([.ref qc, .int ta, .int mo] : List Value) ++ List.replicate (7 - (lg_sl ([.ref qc, .int ta, .int mo] : List Value)).length) Slot.unset).toArray = ls at hl ⊢
  have hl : lv_has ls 7 [(0, .ref qc), (1, .int ta), (2, .int mo)] := hl
  have hE : x_X1_fill cv ta mo = x_X1_fill cv ta mo := rfl
  obtain ⟨aR, hzaR, htaR⟩ := he.rad
  refine lv_iconst (v := 0) hx hb dX1_fill_0 (by decide) ?_
  refine lv_istore_n (lv' := [(3, .int (0 : Int32)), (0, .ref qc), (1, .int ta), (2, .int mo)]) hx hb dX1_fill_1 rfl hl (by decide) rfl (fun ls hl => ?_)
  have L2 : ∀ (n2 : Nat) (k3_2 : Nat) (w1_a_2 : Nat → Int32) (hi : k3_2 ≤ 6 ∧ 6 < k3_2 + n2) (H : Heap) (locs : List Loc) (hP : va_P (dC, dI) vwCl [(qc, .inr (1, [.ref qcv, .ref qce, .ref qcs, .int cw])), (qcv, .inl (cyI, 96, .inl w1_a_2)), (qce, .inl (cyI, 4, .inl ce)), (qcs, .inl (cyI, 4, .inl cs))] H) (hD : va_D A [(qc, .inr (1, [.ref qcv, .ref qce, .ref qcs, .int cw])), (qcv, .inl (cyI, 96, .inl w1_a_2)), (qce, .inl (cyI, 4, .inl ce)), (qcs, .inl (cyI, 4, .inl cs))]) (hS : va_S A s.heap H locs) (ls : Array Slot) (hl : lv_has ls 7 [(0, .ref qc), (1, .int ta), (2, .int mo), (3, .int (nI k3_2))]) (hE : (x_X1_fill cv ta mo) = spIter (fun _ _ => default) (x_X1_fill_b2 ta mo) n2 k3_2 w1_a_2), W p l e (headSpec wqX1_fill ({ frames := 1, cells := 0, slots := 0, locals := 25 } : Room)).room s m ([.ref qc, .int ta, .int mo] : List Value).toArray below meth c H locs 0 0 (MQ below (va_Qv (fun u : (Nat → Int32) => u = (x_X1_fill cv ta mo)) (fun (u : (Nat → Int32)) t => va_P (dC, dI) vwCl [(qc, .inr (1, [.ref qcv, .ref qce, .ref qcs, .int cw])), (qcv, .inl (cyI, 96, .inl u)), (qce, .inl (cyI, 4, .inl ce)), (qcs, .inl (cyI, 4, .inl cs))] t.heap ∧ va_D A [(qc, .inr (1, [.ref qcv, .ref qce, .ref qcs, .int cw])), (qcv, .inl (cyI, 96, .inl u)), (qce, .inl (cyI, 4, .inl ce)), (qcs, .inl (cyI, 4, .inl cs))]) A) ([.ref qc, .int ta, .int mo] : List Value).toArray s 0 0 A) (F0 m 2 ls []) := by
    intro n2
    induction n2 with
    | zero =>
      intro k3_2 w1_a_2 hi H locs hP hD hS ls hl hE
      exact absurd hi (by omega)
    | succ n2 ih2 =>
      intro k3_2 w1_a_2 hi H locs hP hD hS ls hl hE
      have hE : (x_X1_fill cv ta mo) = x_X1_fill_b2 ta mo (spIter (fun _ _ => default) (x_X1_fill_b2 ta mo) n2) k3_2 w1_a_2 := hE
      refine lv_iload_n hx hb dX1_fill_2 rfl (lv_at hl 3 rfl) ?_
      refine va_gets hx hb hzaR hS hown w_0 (fun _ h9 => h9) dX1_fill_3 ?_
      refine rt_len (v := 6) hx hb htaR hS rfl dX1_fill_6 ?_
      refine lv_icmp_ge (tgt := 81) hx hb dX1_fill_7 (by decide) (fun c_1 => ?_) (fun c_1 => ?_)
      ·
        have c_1 : 6 ≤ k3_2 := by
          have h1 : ((nI k3_2)) = nI k3_2 := rfl
          have h2 : ((6 : Int32)) = nI 6 := rfl
          have h3 : (nI 6 ≤ nI k3_2) := by first | exact c_1 | (rw [← h1, ← h2]; exact c_1)
          exact (nI_leI (by omega) (by omega)).mp h3
        have hE := hE.trans (if_pos c_1)
        exact W.vret hx hb hr (fun t h9 hW => ⟨⟨(w1_a_2 : (Nat → Int32)), rfl, hE.symm, by rw [h9]; exact hP, hD⟩, hS.F h9⟩) hS.2.2 dX1_fill_81
      ·
        have c_1 : ¬ 6 ≤ k3_2 := by
          have h1 : ((nI k3_2)) = nI k3_2 := rfl
          have h2 : ((6 : Int32)) = nI 6 := rfl
          have h3 : ¬ (nI 6 ≤ nI k3_2) := by first | exact c_1 | (rw [← h1, ← h2]; exact c_1)
          exact fun h => h3 ((nI_leI (by omega) (by omega)).mpr h)
        have hE := hE.trans (if_neg c_1)
        refine va_gets hx hb hzaR hS hown w_0 (fun _ h9 => h9) dX1_fill_10 ?_
        refine lv_iload_n hx hb dX1_fill_13 rfl (lv_at hl 3 rfl) ?_
        refine rt_ld hx hb htaR hS (j := k3_2) (rfl : (nI k3_2) = nI k3_2) (by omega) (by omega) dX1_fill_14 ?_
        refine lv_topi (fun x_2 ex_2 => ?_)
        have hE := hE.trans (spLet_eq ex_2)
        refine lv_istore (lv' := [(4, .int x_2), (0, .ref qc), (1, .int ta), (2, .int mo), (3, .int (nI k3_2))]) hx hb dX1_fill_15 hl (by decide) rfl (fun ls hl => ?_)
        refine lv_iload hx hb dX1_fill_17 (lv_at hl 0 rfl) ?_
        have J39 : ∀ (t0_39 : Int32) (ls : Array Slot) (hl : lv_has ls 7 [(0, .ref qc), (1, .int ta), (2, .int mo), (3, .int (nI k3_2))]) (hE : (x_X1_fill cv ta mo) = x_X1_fill_j39 ta k3_2 w1_a_2 (spIter (fun _ _ => default) (x_X1_fill_b2 ta mo) n2) t0_39), W p l e (headSpec wqX1_fill ({ frames := 1, cells := 0, slots := 0, locals := 25 } : Room)).room s m ([.ref qc, .int ta, .int mo] : List Value).toArray below meth c H locs 0 0 (MQ below (va_Qv (fun u : (Nat → Int32) => u = (x_X1_fill cv ta mo)) (fun (u : (Nat → Int32)) t => va_P (dC, dI) vwCl [(qc, .inr (1, [.ref qcv, .ref qce, .ref qcs, .int cw])), (qcv, .inl (cyI, 96, .inl u)), (qce, .inl (cyI, 4, .inl ce)), (qcs, .inl (cyI, 4, .inl cs))] t.heap ∧ va_D A [(qc, .inr (1, [.ref qcv, .ref qce, .ref qcs, .int cw])), (qcv, .inl (cyI, 96, .inl u)), (qce, .inl (cyI, 4, .inl ce)), (qcs, .inl (cyI, 4, .inl cs))]) A) ([.ref qc, .int ta, .int mo] : List Value).toArray s 0 0 A) (F0 m 39 ls [.int t0_39]) := by
          intro t0_39 ls hl hE
          refine lv_istore (lv' := [(5, .int t0_39), (0, .ref qc), (1, .int ta), (2, .int mo), (3, .int (nI k3_2))]) hx hb dX1_fill_39 hl (by decide) rfl (fun ls hl => ?_)
          refine lv_iconst (v := 0) hx hb dX1_fill_41 (by decide) ?_
          refine lv_istore (lv' := [(6, .int (0 : Int32)), (5, .int t0_39), (0, .ref qc), (1, .int ta), (2, .int mo), (3, .int (nI k3_2))]) hx hb dX1_fill_42 hl (by decide) rfl (fun ls hl => ?_)
          have L44 : ∀ (n44 : Nat) (k6_44 : Nat) (w1_a_44 : Nat → Int32) (hi : k6_44 ≤ 4 ∧ 4 < k6_44 + n44) (H : Heap) (locs : List Loc) (hP : va_P (dC, dI) vwCl [(qc, .inr (1, [.ref qcv, .ref qce, .ref qcs, .int cw])), (qcv, .inl (cyI, 96, .inl w1_a_44)), (qce, .inl (cyI, 4, .inl ce)), (qcs, .inl (cyI, 4, .inl cs))] H) (hD : va_D A [(qc, .inr (1, [.ref qcv, .ref qce, .ref qcs, .int cw])), (qcv, .inl (cyI, 96, .inl w1_a_44)), (qce, .inl (cyI, 4, .inl ce)), (qcs, .inl (cyI, 4, .inl cs))]) (hS : va_S A s.heap H locs) (ls : Array Slot) (hl : lv_has ls 7 [(0, .ref qc), (1, .int ta), (2, .int mo), (3, .int (nI k3_2)), (5, .int t0_39), (6, .int (nI k6_44))]) (hE : (x_X1_fill cv ta mo) = spIter (fun _ _ => default) (x_X1_fill_b44 ta k3_2 (spIter (fun _ _ => default) (x_X1_fill_b2 ta mo) n2) t0_39) n44 k6_44 w1_a_44), W p l e (headSpec wqX1_fill ({ frames := 1, cells := 0, slots := 0, locals := 25 } : Room)).room s m ([.ref qc, .int ta, .int mo] : List Value).toArray below meth c H locs 0 0 (MQ below (va_Qv (fun u : (Nat → Int32) => u = (x_X1_fill cv ta mo)) (fun (u : (Nat → Int32)) t => va_P (dC, dI) vwCl [(qc, .inr (1, [.ref qcv, .ref qce, .ref qcs, .int cw])), (qcv, .inl (cyI, 96, .inl u)), (qce, .inl (cyI, 4, .inl ce)), (qcs, .inl (cyI, 4, .inl cs))] t.heap ∧ va_D A [(qc, .inr (1, [.ref qcv, .ref qce, .ref qcs, .int cw])), (qcv, .inl (cyI, 96, .inl u)), (qce, .inl (cyI, 4, .inl ce)), (qcs, .inl (cyI, 4, .inl cs))]) A) ([.ref qc, .int ta, .int mo] : List Value).toArray s 0 0 A) (F0 m 44 ls []) := by
            intro n44
            induction n44 with
            | zero =>
              intro k6_44 w1_a_44 hi H locs hP hD hS ls hl hE
              exact absurd hi (by omega)
            | succ n44 ih44 =>
              intro k6_44 w1_a_44 hi H locs hP hD hS ls hl hE
              have hE : (x_X1_fill cv ta mo) = x_X1_fill_b44 ta k3_2 (spIter (fun _ _ => default) (x_X1_fill_b2 ta mo) n2) t0_39 (spIter (fun _ _ => default) (x_X1_fill_b44 ta k3_2 (spIter (fun _ _ => default) (x_X1_fill_b2 ta mo) n2) t0_39) n44) k6_44 w1_a_44 := hE
              refine lv_iload hx hb dX1_fill_44 (lv_at hl 5 rfl) ?_
              refine lv_iconst (v := 4) hx hb dX1_fill_46 (by decide) ?_
              refine lv_icmp_ge (tgt := 75) hx hb dX1_fill_47 (by decide) (fun c_4 => ?_) (fun c_4 => ?_)
              ·
                have c_4 : 4 ≤ k6_44 := by
                  have h1 : ((nI k6_44)) = nI k6_44 := rfl
                  have h2 : ((4 : Int32)) = nI 4 := rfl
                  have h3 : (nI 4 ≤ nI k6_44) := by first | exact c_4 | (rw [← h1, ← h2]; exact c_4)
                  exact (nI_leI (by omega) (by omega)).mp h3
                have hE := hE.trans (if_pos c_4)
                refine lv_iinc (v := (nI (k3_2 + 1))) (lv' := [(3, .int (nI (k3_2 + 1))), (0, .ref qc), (1, .int ta), (2, .int mo), (5, .int t0_39), (6, .int (nI k6_44))]) hx hb dX1_fill_75 hl (k := 3) rfl (show _ from (congrArg (fun z => z + Int32.ofInt 1) (rfl)).trans (ninc _ 1)) (by decide) rfl (fun ls hl => ?_)
                refine lv_goto (tgt := 2) hx hb dX1_fill_78 (by decide) ?_
                exact ih2 (k3_2 + 1) w1_a_44 (by omega) _ _ hP hD hS ls (lv_sub hl [1, 2, 3, 0] rfl) hE
              ·
                have c_4 : ¬ 4 ≤ k6_44 := by
                  have h1 : ((nI k6_44)) = nI k6_44 := rfl
                  have h2 : ((4 : Int32)) = nI 4 := rfl
                  have h3 : ¬ (nI 4 ≤ nI k6_44) := by first | exact c_4 | (rw [← h1, ← h2]; exact c_4)
                  exact fun h => h3 ((nI_leI (by omega) (by omega)).mpr h)
                have hE := hE.trans (if_neg c_4)
                refine lv_aload_n hx hb dX1_fill_50 rfl (lv_at hl 0 rfl) ?_
                refine lv_iload_n hx hb dX1_fill_51 rfl (lv_at hl 1 rfl) ?_
                refine lv_iload hx hb dX1_fill_52 (lv_at hl 5 rfl) ?_
                refine lv_iload_n hx hb dX1_fill_54 rfl (lv_at hl 3 rfl) ?_
                refine lv_iload hx hb dX1_fill_55 (lv_at hl 4 rfl) ?_
                refine lv_bipush (v := 10) hx hb dX1_fill_57 (by decide) ?_
                refine lv_iload hx hb dX1_fill_59 (lv_at hl 5 rfl) ?_
                refine lv_isub hx hb dX1_fill_61 ?_
                refine lv_imul hx hb dX1_fill_62 ?_
                refine lv_bipush (v := 10) hx hb dX1_fill_63 (by decide) ?_
                refine lv_idiv hx hb dX1_fill_65 (by decide) ?_
                refine mj_v (wr := []) (va_runV (As := [.int ta, .int (nI k6_44), .int (nI k3_2), .int ((t0_39 * ((10 : Int32) - (nI k6_44))) / (10 : Int32))]) (rest := []) ⟨hx, hb, hml, hown, hts⟩ (c_X1_putValue l dC dI cyI H.size qc qcv qce qcs cw w1_a_44 ce cs ta (nI k6_44) (nI k3_2) ((t0_39 * ((10 : Int32) - (nI k6_44))) / (10 : Int32))) (cwV 4 hts (gBV b_253 b_227 b_228 b_39 b_229) rfl rfl rfl (by decide +kernel) ⟨Nat.le_of_ble_eq_true rfl, Nat.le_of_ble_eq_true rfl⟩) (prm_v eX_ok he hS hP hD hK (va_free (wc := [(qc, .inr (1, [.ref qcv, .ref qce, .ref qcs, .int cw])), (qcv, .inl (cyI, 96, .inl w1_a_44)), (qce, .inl (cyI, 4, .inl ce)), (qcs, .inl (cyI, 4, .inl cs))]) hD hS hA [0, 1, 2, 3] rfl) 0 rfl rfl rfl) rfl rfl hl.1 rfl (lv_room (Nat.le_of_ble_eq_true rfl)) dX1_fill_66 ⟨Nat.le_of_ble_eq_true rfl, Nat.le_of_ble_eq_true rfl⟩) hP hD hS hA [0, 1, 2, 3] [] rfl rfl (by decide) (by decide) (fun u_5 H locs hw hP hD hS => ?_)
                have hu_5 := hw
                have hE := hE.trans (spLet_eq hu_5)
                have hP : va_P (dC, dI) vwCl [(qc, .inr (1, [.ref qcv, .ref qce, .ref qcs, .int cw])), (qcv, .inl (cyI, 96, .inl u_5)), (qce, .inl (cyI, 4, .inl ce)), (qcs, .inl (cyI, 4, .inl cs))] H := hP
                have hD : va_D A [(qc, .inr (1, [.ref qcv, .ref qce, .ref qcs, .int cw])), (qcv, .inl (cyI, 96, .inl u_5)), (qce, .inl (cyI, 4, .inl ce)), (qcs, .inl (cyI, 4, .inl cs))] := hD
                refine lv_iinc (v := (nI (k6_44 + 1))) (lv' := [(6, .int (nI (k6_44 + 1))), (0, .ref qc), (1, .int ta), (2, .int mo), (3, .int (nI k3_2)), (5, .int t0_39)]) hx hb dX1_fill_69 hl (k := 5) rfl (show _ from (congrArg (fun z => z + Int32.ofInt 1) (rfl)).trans (ninc _ 1)) (by decide) rfl (fun ls hl => ?_)
                refine lv_goto (tgt := 44) hx hb dX1_fill_72 (by decide) ?_
                exact ih44 (k6_44 + 1) u_5 (by omega) _ _ hP hD hS ls (lv_sub hl [1, 2, 3, 4, 5, 0] rfl) hE
          exact L44 5 0 w1_a_2 (by omega) _ _ hP hD hS ls (lv_sub hl [2, 3, 4, 5, 1, 0] rfl) hE
        refine lv_if_gt (tgt := 26) hx hb dX1_fill_19 (by decide) (fun c_3 => ?_) (fun c_3 => ?_)
        ·
          have hE := hE.trans (if_pos c_3)
          have hne := xne_lt (by assumption)
          refine lv_ldc (v := 100000) hx hb hown w_1 dX1_fill_26 ?_
          refine lv_sipush (v := 1000) hx hb dX1_fill_28 (by decide) ?_
          refine lv_iload_n hx hb dX1_fill_31 rfl (lv_at hl 3 rfl) ?_
          refine lv_imul hx hb dX1_fill_32 ?_
          refine lv_iload hx hb dX1_fill_33 (lv_at hl 0 rfl) ?_
          refine lv_idiv hx hb dX1_fill_35 (hne) ?_
          refine va_mmin hx hb (hml.trans hl.1.symm) hown w_2 w_3 w_4 w_5 (Nat.le_of_ble_eq_true rfl) (Nat.le_of_ble_eq_true rfl) (Nat.le_of_ble_eq_true rfl) (Nat.le_of_ble_eq_true rfl) dX1_fill_36 ?_
          exact J39 (if (((1000 : Int32) * mo) / x_2) < (100000 : Int32) then (((1000 : Int32) * mo) / x_2) else (100000 : Int32)) ls (lv_sub hl [1, 2, 3, 4] rfl) hE
        ·
          have hE := hE.trans (if_neg c_3)
          refine lv_iconst (v := 0) hx hb dX1_fill_22 (by decide) ?_
          refine lv_goto (tgt := 39) hx hb dX1_fill_23 (by decide) ?_
          exact J39 (0 : Int32) ls (lv_sub hl [1, 2, 3, 4] rfl) hE
  exact L2 7 0 cv (by omega) _ _ hP hD hS ls (lv_sub hl [1, 2, 3, 0] rfl) hE
def x_X1_sum_b12 (cv : Nat → Int32) (ta : Int32) (k3_4 : Nat) (rec4 : Int32 → Nat → (Int32)) (rec12 : Int32 → Nat → (Int32)) : Int32 → Nat → (Int32) :=
  fun v2_12 k4_12 => if 6 ≤ k4_12 then (rec4 v2_12 (k3_4 + 1)) else (spLet (x_X1_valueAt cv ta (nI k3_4) (nI k4_12)) (fun r_3 => spLet ((v2_12 + r_3)) (fun x_4 => rec12 x_4 (k4_12 + 1))))
def x_X1_sum_b4 (cv : Nat → Int32) (ta : Int32) (rec4 : Int32 → Nat → (Int32)) : Int32 → Nat → (Int32) :=
  fun v2_4 k3_4 => if 4 ≤ k3_4 then v2_4 else (spIter (fun _ _ => default) (x_X1_sum_b12 cv ta k3_4 rec4) 7 v2_4 0)
def x_X1_sum (cv : Nat → Int32) (ta : Int32) : Int32 :=
  spIter (fun _ _ => default) (x_X1_sum_b4 cv ta) 5 (0 : Int32) 0
set_option maxHeartbeats 1000000 in
set_option maxRecDepth 100000 in
theorem c_X1_sum (l : Launch) (dC : Nat → ClassId) (dI : Nat → Nat → Nat) (cyI : ClassId) (qc : Nat) (qcv : Nat) (qce : Nat) (qcs : Nat) (cw : Int32) (cv : Nat → Int32) (ce : Nat → Int32) (cs : Nat → Int32) (ta : Int32) : Met l yX1_sum wqX1_sum ({ frames := 1, cells := 0, slots := 0, locals := 24 } : Room) (va_Pc [.ref qc, .int ta] (pB (dC, dI) [(qc, .inr (1, [.ref qcv, .ref qce, .ref qcs, .int cw])), (qcv, .inl (cyI, 96, .inl cv)), (qce, .inl (cyI, 4, .inl ce)), (qcs, .inl (cyI, 4, .inl cs))] [(cyI, .int)] eX)) (vp_Si (fun r => r = (x_X1_sum cv ta))) 0 0 aF := by
  refine Met.ofW (cc := cX1_sum) (maxL := 5) (ret := (some .int)) (by decide) rfl ?_
  intro p e s m args below meth c s₁ B hml hv
  obtain ⟨rfl, hP, hK, he⟩ := hv
  have hx := B.exec
  have hb := B.bytes
  have hr := B.returns
  have hts := atoms_spec (ws := wqX1_sum) B.pre
  have hown : s.vm.findClass RX1 = some m.cls := findClass_of_methodNamed B.named
  have hlocks := B.notSynchronized
  have hS : va_S aF s.heap s.heap [] := va_S.rf
  have hP : va_P (dC, dI) vwCl [(qc, .inr (1, [.ref qcv, .ref qce, .ref qcs, .int cw])), (qcv, .inl (cyI, 96, .inl cv)), (qce, .inl (cyI, 4, .inl ce)), (qcs, .inl (cyI, 4, .inl cs))] s.heap := hP
  have hl := lv_entry ([.ref qc, .int ta] : List Value) (n := 5) (Nat.le_of_ble_eq_true rfl)
  rw [lg_entry_eq]
  generalize (lg_sl ([.ref qc, .int ta] : List Value) ++ List.replicate (5 - (lg_sl ([.ref qc, .int ta] : List Value)).length) Slot.unset).toArray = ls at hl ⊢
  have hl : lv_has ls 5 [(0, .ref qc), (1, .int ta)] := hl
  have hE : x_X1_sum cv ta = x_X1_sum cv ta := rfl
  refine lv_iconst (v := 0) hx hb dX1_sum_0 (by decide) ?_
  refine lv_istore_n (lv' := [(2, .int (0 : Int32)), (0, .ref qc), (1, .int ta)]) hx hb dX1_sum_1 rfl hl (by decide) rfl (fun ls hl => ?_)
  refine lv_iconst (v := 0) hx hb dX1_sum_2 (by decide) ?_
  refine lv_istore_n (lv' := [(3, .int (0 : Int32)), (2, .int (0 : Int32)), (0, .ref qc), (1, .int ta)]) hx hb dX1_sum_3 rfl hl (by decide) rfl (fun ls hl => ?_)
  have L4 : ∀ (n4 : Nat) (v2_4 : Int32) (k3_4 : Nat) (hi : k3_4 ≤ 4 ∧ 4 < k3_4 + n4) (ls : Array Slot) (hl : lv_has ls 5 [(0, .ref qc), (1, .int ta), (2, .int v2_4), (3, .int (nI k3_4))]) (hE : (x_X1_sum cv ta) = spIter (fun _ _ => default) (x_X1_sum_b4 cv ta) n4 v2_4 k3_4), W p l e (headSpec wqX1_sum ({ frames := 1, cells := 0, slots := 0, locals := 24 } : Room)).room s m ([.ref qc, .int ta] : List Value).toArray below meth c s.heap [] 0 0 (MQ below (vp_Si (fun r => r = (x_X1_sum cv ta))) ([.ref qc, .int ta] : List Value).toArray s 0 0 aF) (F0 m 4 ls []) := by
    intro n4
    induction n4 with
    | zero =>
      intro v2_4 k3_4 hi ls hl hE
      exact absurd hi (by omega)
    | succ n4 ih4 =>
      intro v2_4 k3_4 hi ls hl hE
      have hE : (x_X1_sum cv ta) = x_X1_sum_b4 cv ta (spIter (fun _ _ => default) (x_X1_sum_b4 cv ta) n4) v2_4 k3_4 := hE
      refine lv_iload_n hx hb dX1_sum_4 rfl (lv_at hl 3 rfl) ?_
      refine lv_iconst (v := 4) hx hb dX1_sum_5 (by decide) ?_
      refine lv_icmp_ge (tgt := 42) hx hb dX1_sum_6 (by decide) (fun c_1 => ?_) (fun c_1 => ?_)
      ·
        have c_1 : 4 ≤ k3_4 := by
          have h1 : ((nI k3_4)) = nI k3_4 := rfl
          have h2 : ((4 : Int32)) = nI 4 := rfl
          have h3 : (nI 4 ≤ nI k3_4) := by first | exact c_1 | (rw [← h1, ← h2]; exact c_1)
          exact (nI_leI (by omega) (by omega)).mp h3
        have hE := hE.trans (if_pos c_1)
        refine lv_iload_n hx hb dX1_sum_42 rfl (lv_at hl 2 rfl) ?_
        exact W.iret (v := v2_4) hx hb hr (fun t ht hW => ⟨_, rfl, hE.symm, ht⟩) (fun q h => by cases h) dX1_sum_43
      ·
        have c_1 : ¬ 4 ≤ k3_4 := by
          have h1 : ((nI k3_4)) = nI k3_4 := rfl
          have h2 : ((4 : Int32)) = nI 4 := rfl
          have h3 : ¬ (nI 4 ≤ nI k3_4) := by first | exact c_1 | (rw [← h1, ← h2]; exact c_1)
          exact fun h => h3 ((nI_leI (by omega) (by omega)).mpr h)
        have hE := hE.trans (if_neg c_1)
        refine lv_iconst (v := 0) hx hb dX1_sum_9 (by decide) ?_
        refine lv_istore (lv' := [(4, .int (0 : Int32)), (0, .ref qc), (1, .int ta), (2, .int v2_4), (3, .int (nI k3_4))]) hx hb dX1_sum_10 hl (by decide) rfl (fun ls hl => ?_)
        have L12 : ∀ (n12 : Nat) (v2_12 : Int32) (k4_12 : Nat) (hi : k4_12 ≤ 6 ∧ 6 < k4_12 + n12) (ls : Array Slot) (hl : lv_has ls 5 [(0, .ref qc), (1, .int ta), (2, .int v2_12), (3, .int (nI k3_4)), (4, .int (nI k4_12))]) (hE : (x_X1_sum cv ta) = spIter (fun _ _ => default) (x_X1_sum_b12 cv ta k3_4 (spIter (fun _ _ => default) (x_X1_sum_b4 cv ta) n4)) n12 v2_12 k4_12), W p l e (headSpec wqX1_sum ({ frames := 1, cells := 0, slots := 0, locals := 24 } : Room)).room s m ([.ref qc, .int ta] : List Value).toArray below meth c s.heap [] 0 0 (MQ below (vp_Si (fun r => r = (x_X1_sum cv ta))) ([.ref qc, .int ta] : List Value).toArray s 0 0 aF) (F0 m 12 ls []) := by
          intro n12
          induction n12 with
          | zero =>
            intro v2_12 k4_12 hi ls hl hE
            exact absurd hi (by omega)
          | succ n12 ih12 =>
            intro v2_12 k4_12 hi ls hl hE
            have hE : (x_X1_sum cv ta) = x_X1_sum_b12 cv ta k3_4 (spIter (fun _ _ => default) (x_X1_sum_b4 cv ta) n4) (spIter (fun _ _ => default) (x_X1_sum_b12 cv ta k3_4 (spIter (fun _ _ => default) (x_X1_sum_b4 cv ta) n4)) n12) v2_12 k4_12 := hE
            refine lv_iload hx hb dX1_sum_12 (lv_at hl 4 rfl) ?_
            refine lv_bipush (v := 6) hx hb dX1_sum_14 (by decide) ?_
            refine lv_icmp_ge (tgt := 36) hx hb dX1_sum_16 (by decide) (fun c_2 => ?_) (fun c_2 => ?_)
            ·
              have c_2 : 6 ≤ k4_12 := by
                have h1 : ((nI k4_12)) = nI k4_12 := rfl
                have h2 : ((6 : Int32)) = nI 6 := rfl
                have h3 : (nI 6 ≤ nI k4_12) := by first | exact c_2 | (rw [← h1, ← h2]; exact c_2)
                exact (nI_leI (by omega) (by omega)).mp h3
              have hE := hE.trans (if_pos c_2)
              refine lv_iinc (v := (nI (k3_4 + 1))) (lv' := [(3, .int (nI (k3_4 + 1))), (0, .ref qc), (1, .int ta), (2, .int v2_12), (4, .int (nI k4_12))]) hx hb dX1_sum_36 hl (k := 3) rfl (show _ from (congrArg (fun z => z + Int32.ofInt 1) (rfl)).trans (ninc _ 1)) (by decide) rfl (fun ls hl => ?_)
              refine lv_goto (tgt := 4) hx hb dX1_sum_39 (by decide) ?_
              exact ih4 v2_12 (k3_4 + 1) (by omega) ls (lv_sub hl [1, 2, 3, 0] rfl) hE
            ·
              have c_2 : ¬ 6 ≤ k4_12 := by
                have h1 : ((nI k4_12)) = nI k4_12 := rfl
                have h2 : ((6 : Int32)) = nI 6 := rfl
                have h3 : ¬ (nI 6 ≤ nI k4_12) := by first | exact c_2 | (rw [← h1, ← h2]; exact c_2)
                exact fun h => h3 ((nI_leI (by omega) (by omega)).mpr h)
              have hE := hE.trans (if_neg c_2)
              refine lv_iload_n hx hb dX1_sum_19 rfl (lv_at hl 2 rfl) ?_
              refine lv_aload_n hx hb dX1_sum_20 rfl (lv_at hl 0 rfl) ?_
              refine lv_iload_n hx hb dX1_sum_21 rfl (lv_at hl 1 rfl) ?_
              refine lv_iload_n hx hb dX1_sum_22 rfl (lv_at hl 3 rfl) ?_
              refine lv_iload hx hb dX1_sum_23 (lv_at hl 4 rfl) ?_
              refine vp_callSi (W.runV (As := [.int ta, .int (nI k3_4), .int (nI k4_12)]) (rest := [.int v2_12]) ⟨hx, hb, hml, hown, hts⟩ (c_X1_valueAt l dC dI cyI qc qcv qce qcs cw cv ce cs ta (nI k3_4) (nI k4_12)) (cwV 3 hts (gBV b_258 b_223 b_224 b_39 b_225) rfl rfl rfl (by decide +kernel) ⟨Nat.le_of_ble_eq_true rfl, Nat.le_of_ble_eq_true rfl⟩) (pre_v eX_ok he hS hP hK 0 rfl rfl rfl) rfl rfl hl.1 rfl (lv_room (Nat.le_of_ble_eq_true rfl)) dX1_sum_25 ⟨Nat.zero_le _, Nat.zero_le _⟩) (fun r_3 hr_3 => ?_)
              have hE := hE.trans (spLet_eq hr_3)
              refine lv_iadd hx hb dX1_sum_28 ?_
              refine lv_topi (fun x_4 ex_4 => ?_)
              have hE := hE.trans (spLet_eq ex_4)
              refine lv_istore_n (lv' := [(2, .int x_4), (0, .ref qc), (1, .int ta), (3, .int (nI k3_4)), (4, .int (nI k4_12))]) hx hb dX1_sum_29 rfl hl (by decide) rfl (fun ls hl => ?_)
              refine lv_iinc (v := (nI (k4_12 + 1))) (lv' := [(4, .int (nI (k4_12 + 1))), (2, .int x_4), (0, .ref qc), (1, .int ta), (3, .int (nI k3_4))]) hx hb dX1_sum_30 hl (k := 4) rfl (show _ from (congrArg (fun z => z + Int32.ofInt 1) (rfl)).trans (ninc _ 1)) (by decide) rfl (fun ls hl => ?_)
              refine lv_goto (tgt := 12) hx hb dX1_sum_33 (by decide) ?_
              exact ih12 x_4 (k4_12 + 1) (by omega) ls (lv_sub hl [2, 3, 1, 4, 0] rfl) hE
        exact L12 7 v2_4 0 (by omega) ls (lv_sub hl [1, 2, 3, 4, 0] rfl) hE
  exact L4 5 (0 : Int32) 0 (by omega) ls (lv_sub hl [2, 3, 1, 0] rfl) hE
def x_X1_takeSample_b8 (spd : Int32) (rec8 : Int32 → (Nat → Int32) → ((Nat → Int32))) : Int32 → (Nat → Int32) → ((Nat → Int32)) :=
  fun v2_8 w3_a_8 => if v2_8 ≤ 0 then (spLet (upd w3_a_8 0 spd) (fun f_3 => f_3)) else (spLet ((w3_a_8 (v2_8 - (1 : Int32)).toNatClampNeg)) (fun x_4 => spLet (upd w3_a_8 ((v2_8).toNatClampNeg) x_4) (fun f_5 => spLet (v2_8 + (-1 : Int32)) (fun x_6 => rec8 x_6 f_5))))
def x_X1_takeSample (cs : Nat → Int32) (spd : Int32) : (Nat → Int32) :=
  spLet (((4 : Int32) - (1 : Int32))) (fun x_1 => spIter (fun _ _ => default) (x_X1_takeSample_b8 spd) 4 x_1 cs)
set_option maxHeartbeats 1000000 in
set_option maxRecDepth 100000 in
theorem c_X1_takeSample (l : Launch) (dC : Nat → ClassId) (dI : Nat → Nat → Nat) (cyI : ClassId) (sz : Nat) (qc : Nat) (qcv : Nat) (qce : Nat) (qcs : Nat) (cw : Int32) (cv : Nat → Int32) (ce : Nat → Int32) (cs : Nat → Int32) (spd : Int32) : Met l yX1_takeSample wqX1_takeSample ({ frames := 0, cells := 0, slots := 0, locals := 0 } : Room) (va_Pc [.ref qc, .int spd] (pC (dC, dI) [(qc, .inr (1, [.ref qcv, .ref qce, .ref qcs, .int cw])), (qcv, .inl (cyI, 96, .inl cv)), (qce, .inl (cyI, 4, .inl ce)), (qcs, .inl (cyI, 4, .inl cs))] [(cyI, .int)] eX sz)) (va_Qv (fun u : (Nat → Int32) => u = (x_X1_takeSample cs spd)) (fun (u : (Nat → Int32)) t => va_P (dC, dI) vwCl [(qc, .inr (1, [.ref qcv, .ref qce, .ref qcs, .int cw])), (qcv, .inl (cyI, 96, .inl cv)), (qce, .inl (cyI, 4, .inl ce)), (qcs, .inl (cyI, 4, .inl u))] t.heap ∧ va_D (va_A [(qc, .inr (1, [.ref qcv, .ref qce, .ref qcs, .int cw])), (qcv, .inl (cyI, 96, .inl cv)), (qce, .inl (cyI, 4, .inl ce)), (qcs, .inl (cyI, 4, .inl cs))] sz) [(qc, .inr (1, [.ref qcv, .ref qce, .ref qcs, .int cw])), (qcv, .inl (cyI, 96, .inl cv)), (qce, .inl (cyI, 4, .inl ce)), (qcs, .inl (cyI, 4, .inl u))]) (va_A [(qc, .inr (1, [.ref qcv, .ref qce, .ref qcs, .int cw])), (qcv, .inl (cyI, 96, .inl cv)), (qce, .inl (cyI, 4, .inl ce)), (qcs, .inl (cyI, 4, .inl cs))] sz)) 0 0 (va_A [(qc, .inr (1, [.ref qcv, .ref qce, .ref qcs, .int cw])), (qcv, .inl (cyI, 96, .inl cv)), (qce, .inl (cyI, 4, .inl ce)), (qcs, .inl (cyI, 4, .inl cs))] sz) := by
  refine Met.ofW (cc := cX1_takeSample) (maxL := 3) (ret := none) (by decide) rfl ?_
  intro p e s m args below meth c s₁ B hml hv
  obtain ⟨rfl, hsz, hP, hK, hD0, he⟩ := hv
  have hx := B.exec
  have hb := B.bytes
  have hr := B.returns
  have hts := atoms_spec (ws := wqX1_takeSample) B.pre
  have hown : s.vm.findClass RX1 = some m.cls := findClass_of_methodNamed B.named
  have hlocks := B.notSynchronized
  have w_0 := hts (Cond.fieldLink RX1 18 "CraneLimiter$Chart" "samples" "[I") (List.mem_cons_of_mem _ b_64)
  have i_X1 : ∀ w ∈ u_ws RX1 TX1 4, w ∈ wqX1_takeSample := fun w h => List.mem_cons_of_mem _ (bX1 w h)
  subst hsz
  have hD := hD0.self (sz := s.heap.size)
  generalize hAe : va_A [(qc, .inr (1, [.ref qcv, .ref qce, .ref qcs, .int cw])), (qcv, .inl (cyI, 96, .inl cv)), (qce, .inl (cyI, 4, .inl ce)), (qcs, .inl (cyI, 4, .inl cs))] s.heap.size = A at hD he ⊢
  have hA : ∀ q : Nat, s.heap.size ≤ q → A q := fun q h => by rw [← hAe]; exact Or.inr h
  have hS : va_S A s.heap s.heap [] := va_S.rf
  have hP : va_P (dC, dI) vwCl [(qc, .inr (1, [.ref qcv, .ref qce, .ref qcs, .int cw])), (qcv, .inl (cyI, 96, .inl cv)), (qce, .inl (cyI, 4, .inl ce)), (qcs, .inl (cyI, 4, .inl cs))] s.heap := hP
  have hl := lv_entry ([.ref qc, .int spd] : List Value) (n := 3) (Nat.le_of_ble_eq_true rfl)
  rw [lg_entry_eq]
  generalize (lg_sl ([.ref qc, .int spd] : List Value) ++ List.replicate (3 - (lg_sl ([.ref qc, .int spd] : List Value)).length) Slot.unset).toArray = ls at hl ⊢
  have hl : lv_has ls 3 [(0, .ref qc), (1, .int spd)] := hl
  have hE : x_X1_takeSample cs spd = x_X1_takeSample cs spd := rfl
  refine lv_aload_n hx hb dX1_takeSample_0 rfl (lv_at hl 0 rfl) ?_
  refine va_get (D := (dC, dI)) (ci := 1) (v := .ref qcs) (C := RX1) (T := TX1) (N := 4) hx hb hts i_X1 hown hK hP 0 rfl rfl 2 (by decide) w_0 (fun _ h9 => h9) rfl dX1_takeSample_1 ?_
  refine va_alen (v := 4) hx hb hK hP 3 0 rfl rfl rfl dX1_takeSample_4 ?_
  refine lv_iconst (v := 1) hx hb dX1_takeSample_5 (by decide) ?_
  refine lv_isub hx hb dX1_takeSample_6 ?_
  refine lv_topi (fun x_1 ex_1 => ?_)
  have hE := hE.trans (spLet_eq ex_1)
  refine lv_istore_n (lv' := [(2, .int x_1), (0, .ref qc), (1, .int spd)]) hx hb dX1_takeSample_7 rfl hl (by decide) rfl (fun ls hl => ?_)
  have L8 : ∀ (n8 : Nat) (v2_8 : Int32) (w3_a_8 : Nat → Int32) (hi : 0 ≤ (v2_8).toInt ∧ (v2_8).toInt < 4 ∧ (v2_8).toInt < (n8 : Int)) (H : Heap) (locs : List Loc) (hP : va_P (dC, dI) vwCl [(qc, .inr (1, [.ref qcv, .ref qce, .ref qcs, .int cw])), (qcv, .inl (cyI, 96, .inl cv)), (qce, .inl (cyI, 4, .inl ce)), (qcs, .inl (cyI, 4, .inl w3_a_8))] H) (hD : va_D A [(qc, .inr (1, [.ref qcv, .ref qce, .ref qcs, .int cw])), (qcv, .inl (cyI, 96, .inl cv)), (qce, .inl (cyI, 4, .inl ce)), (qcs, .inl (cyI, 4, .inl w3_a_8))]) (hS : va_S A s.heap H locs) (ls : Array Slot) (hl : lv_has ls 3 [(0, .ref qc), (1, .int spd), (2, .int v2_8)]) (hE : (x_X1_takeSample cs spd) = spIter (fun _ _ => default) (x_X1_takeSample_b8 spd) n8 v2_8 w3_a_8), W p l e (headSpec wqX1_takeSample ({ frames := 0, cells := 0, slots := 0, locals := 0 } : Room)).room s m ([.ref qc, .int spd] : List Value).toArray below meth c H locs 0 0 (MQ below (va_Qv (fun u : (Nat → Int32) => u = (x_X1_takeSample cs spd)) (fun (u : (Nat → Int32)) t => va_P (dC, dI) vwCl [(qc, .inr (1, [.ref qcv, .ref qce, .ref qcs, .int cw])), (qcv, .inl (cyI, 96, .inl cv)), (qce, .inl (cyI, 4, .inl ce)), (qcs, .inl (cyI, 4, .inl u))] t.heap ∧ va_D A [(qc, .inr (1, [.ref qcv, .ref qce, .ref qcs, .int cw])), (qcv, .inl (cyI, 96, .inl cv)), (qce, .inl (cyI, 4, .inl ce)), (qcs, .inl (cyI, 4, .inl u))]) A) ([.ref qc, .int spd] : List Value).toArray s 0 0 A) (F0 m 8 ls []) := by
    intro n8
    induction n8 with
    | zero =>
      intro v2_8 w3_a_8 hi H locs hP hD hS ls hl hE
      exact absurd hi (by omega)
    | succ n8 ih8 =>
      intro v2_8 w3_a_8 hi H locs hP hD hS ls hl hE
      have hE : (x_X1_takeSample cs spd) = x_X1_takeSample_b8 spd (spIter (fun _ _ => default) (x_X1_takeSample_b8 spd) n8) v2_8 w3_a_8 := hE
      refine lv_iload_n hx hb dX1_takeSample_8 rfl (lv_at hl 2 rfl) ?_
      refine lv_if_le (tgt := 32) hx hb dX1_takeSample_9 (by decide) (fun c_2 => ?_) (fun c_2 => ?_)
      ·
        have hE := hE.trans (if_pos c_2)
        refine lv_aload_n hx hb dX1_takeSample_32 rfl (lv_at hl 0 rfl) ?_
        refine va_get (D := (dC, dI)) (ci := 1) (v := .ref qcs) (C := RX1) (T := TX1) (N := 4) hx hb hts i_X1 hown hK hP 0 rfl rfl 2 (by decide) w_0 (fun _ h9 => h9) rfl dX1_takeSample_33 ?_
        refine lv_iconst (v := 0) hx hb dX1_takeSample_36 (by decide) ?_
        refine lv_iload_n hx hb dX1_takeSample_37 rfl (lv_at hl 1 rfl) ?_
        refine ra_st hx hb hK hP hD hS 3 0 rfl rfl (j := 0) (rfl : (0 : Int32) = nI 0) (by omega) (by omega) dX1_takeSample_38 (fun H locs hP hD hS => ?_)
        have hP : va_P (dC, dI) vwCl [(qc, .inr (1, [.ref qcv, .ref qce, .ref qcs, .int cw])), (qcv, .inl (cyI, 96, .inl cv)), (qce, .inl (cyI, 4, .inl ce)), (qcs, .inl (cyI, 4, .inl (upd w3_a_8 0 spd)))] H := hP
        have hD : va_D A [(qc, .inr (1, [.ref qcv, .ref qce, .ref qcs, .int cw])), (qcv, .inl (cyI, 96, .inl cv)), (qce, .inl (cyI, 4, .inl ce)), (qcs, .inl (cyI, 4, .inl (upd w3_a_8 0 spd)))] := hD
        obtain ⟨f_3, ef_3⟩ : ∃ y : Nat → Int32, y = upd w3_a_8 0 spd := ⟨_, rfl⟩
        rw [← ef_3] at hP hD
        have hE := hE.trans (spLet_eq ef_3)
        exact W.vret hx hb hr (fun t h9 hW => ⟨⟨(f_3 : (Nat → Int32)), rfl, hE.symm, by rw [h9]; exact hP, hD⟩, hS.F h9⟩) hS.2.2 dX1_takeSample_39
      ·
        have hE := hE.trans (if_neg c_2)
        have hk := xdn (n := 4) (by assumption) hi.2.1 (by omega)
        have hk2 := hk.1.2
        refine lv_aload_n hx hb dX1_takeSample_12 rfl (lv_at hl 0 rfl) ?_
        refine va_get (D := (dC, dI)) (ci := 1) (v := .ref qcs) (C := RX1) (T := TX1) (N := 4) hx hb hts i_X1 hown hK hP 0 rfl rfl 2 (by decide) w_0 (fun _ h9 => h9) rfl dX1_takeSample_13 ?_
        refine lv_iload_n hx hb dX1_takeSample_16 rfl (lv_at hl 2 rfl) ?_
        refine lv_aload_n hx hb dX1_takeSample_17 rfl (lv_at hl 0 rfl) ?_
        refine va_get (D := (dC, dI)) (ci := 1) (v := .ref qcs) (C := RX1) (T := TX1) (N := 4) hx hb hts i_X1 hown hK hP 0 rfl rfl 2 (by decide) w_0 (fun _ h9 => h9) rfl dX1_takeSample_18 ?_
        refine lv_iload_n hx hb dX1_takeSample_21 rfl (lv_at hl 2 rfl) ?_
        refine lv_iconst (v := 1) hx hb dX1_takeSample_22 (by decide) ?_
        refine lv_isub hx hb dX1_takeSample_23 ?_
        refine va_iald hx hb hK hP 3 0 rfl rfl (hk.2.1) dX1_takeSample_24 ?_
        refine lv_topi (fun x_4 ex_4 => ?_)
        have hE := hE.trans (spLet_eq ex_4)
        refine ra_st hx hb hK hP hD hS 3 0 rfl rfl (j := (v2_8).toNatClampNeg) hk.1.1 (by omega) (by omega) dX1_takeSample_25 (fun H locs hP hD hS => ?_)
        have hP : va_P (dC, dI) vwCl [(qc, .inr (1, [.ref qcv, .ref qce, .ref qcs, .int cw])), (qcv, .inl (cyI, 96, .inl cv)), (qce, .inl (cyI, 4, .inl ce)), (qcs, .inl (cyI, 4, .inl (upd w3_a_8 ((v2_8).toNatClampNeg) x_4)))] H := hP
        have hD : va_D A [(qc, .inr (1, [.ref qcv, .ref qce, .ref qcs, .int cw])), (qcv, .inl (cyI, 96, .inl cv)), (qce, .inl (cyI, 4, .inl ce)), (qcs, .inl (cyI, 4, .inl (upd w3_a_8 ((v2_8).toNatClampNeg) x_4)))] := hD
        obtain ⟨f_5, ef_5⟩ : ∃ y : Nat → Int32, y = upd w3_a_8 ((v2_8).toNatClampNeg) x_4 := ⟨_, rfl⟩
        rw [← ef_5] at hP hD
        have hE := hE.trans (spLet_eq ef_5)
        obtain ⟨x_6, ex_6⟩ : ∃ y : Int32, y = v2_8 + (-1 : Int32) := ⟨_, rfl⟩
        have hE := hE.trans (spLet_eq ex_6)
        refine lv_iinc (v := x_6) (lv' := [(2, .int x_6), (0, .ref qc), (1, .int spd)]) hx hb dX1_takeSample_26 hl (k := 2) rfl (by rw [ex_6]; rfl) (by decide) rfl (fun ls hl => ?_)
        refine lv_goto (tgt := 8) hx hb dX1_takeSample_29 (by decide) ?_
        exact ih8 x_6 f_5 (xdn_step hi (by assumption) ex_6) _ _ hP hD hS ls (lv_sub hl [1, 2, 0] rfl) hE
  exact L8 4 x_1 cs ⟨by rw [ex_1]; decide, by rw [ex_1]; decide, by rw [ex_1]; decide⟩ _ _ hP hD hS ls (lv_sub hl [1, 2, 0] rfl) hE
def x_X1_windSpeed_j34 (k4_13 : Nat) (rec13 : Int32 → Nat → (Int32)) (v1_34 : Int32) : Int32 :=
  rec13 v1_34 (k4_13 + 1)
def x_X1_windSpeed_b13 (cs : Nat → Int32) (rec13 : Int32 → Nat → (Int32)) : Int32 → Nat → (Int32) :=
  fun v1_13 k4_13 => if 4 ≤ k4_13 then v1_13 else (spLet ((cs (k4_13))) (fun x_2 => if x_2 ≤ v1_13 then (x_X1_windSpeed_j34 k4_13 rec13 v1_13) else (x_X1_windSpeed_j34 k4_13 rec13 x_2)))
def x_X1_windSpeed (cs : Nat → Int32) : Int32 :=
  spIter (fun _ _ => default) (x_X1_windSpeed_b13 cs) 5 (0 : Int32) 0
set_option maxHeartbeats 1000000 in
set_option maxRecDepth 100000 in
theorem c_X1_windSpeed (l : Launch) (dC : Nat → ClassId) (dI : Nat → Nat → Nat) (cyI : ClassId) (qc : Nat) (qcv : Nat) (qce : Nat) (qcs : Nat) (cw : Int32) (cv : Nat → Int32) (ce : Nat → Int32) (cs : Nat → Int32) : Met l yX1_windSpeed wqX1_windSpeed ({ frames := 0, cells := 0, slots := 0, locals := 0 } : Room) (va_Pc [.ref qc] (pB (dC, dI) [(qc, .inr (1, [.ref qcv, .ref qce, .ref qcs, .int cw])), (qcv, .inl (cyI, 96, .inl cv)), (qce, .inl (cyI, 4, .inl ce)), (qcs, .inl (cyI, 4, .inl cs))] [(cyI, .int)] eX)) (vp_Si (fun r => r = (x_X1_windSpeed cs))) 0 0 aF := by
  refine Met.ofW (cc := cX1_windSpeed) (maxL := 6) (ret := (some .int)) (by decide) rfl ?_
  intro p e s m args below meth c s₁ B hml hv
  obtain ⟨rfl, hP, hK, he⟩ := hv
  have hx := B.exec
  have hb := B.bytes
  have hr := B.returns
  have hts := atoms_spec (ws := wqX1_windSpeed) B.pre
  have hown : s.vm.findClass RX1 = some m.cls := findClass_of_methodNamed B.named
  have hlocks := B.notSynchronized
  have w_0 := hts (Cond.fieldLink RX1 18 "CraneLimiter$Chart" "samples" "[I") (List.mem_cons_of_mem _ b_64)
  have i_X1 : ∀ w ∈ u_ws RX1 TX1 4, w ∈ wqX1_windSpeed := fun w h => List.mem_cons_of_mem _ (bX1 w h)
  have hS : va_S aF s.heap s.heap [] := va_S.rf
  have hP : va_P (dC, dI) vwCl [(qc, .inr (1, [.ref qcv, .ref qce, .ref qcs, .int cw])), (qcv, .inl (cyI, 96, .inl cv)), (qce, .inl (cyI, 4, .inl ce)), (qcs, .inl (cyI, 4, .inl cs))] s.heap := hP
  have hl := lv_entry ([.ref qc] : List Value) (n := 6) (Nat.le_of_ble_eq_true rfl)
  rw [lg_entry_eq]
  generalize (lg_sl ([.ref qc] : List Value) ++ List.replicate (6 - (lg_sl ([.ref qc] : List Value)).length) Slot.unset).toArray = ls at hl ⊢
  have hl : lv_has ls 6 [(0, .ref qc)] := hl
  have hE : x_X1_windSpeed cs = x_X1_windSpeed cs := rfl
  refine lv_iconst (v := 0) hx hb dX1_windSpeed_0 (by decide) ?_
  refine lv_istore_n (lv' := [(1, .int (0 : Int32)), (0, .ref qc)]) hx hb dX1_windSpeed_1 rfl hl (by decide) rfl (fun ls hl => ?_)
  refine lv_aload_n hx hb dX1_windSpeed_2 rfl (lv_at hl 1 rfl) ?_
  refine va_get (D := (dC, dI)) (ci := 1) (v := .ref qcs) (C := RX1) (T := TX1) (N := 4) hx hb hts i_X1 hown hK hP 0 rfl rfl 2 (by decide) w_0 (fun _ h9 => h9) rfl dX1_windSpeed_3 ?_
  refine lv_astore_n (lv' := [(2, .ref qcs), (1, .int (0 : Int32)), (0, .ref qc)]) hx hb dX1_windSpeed_6 rfl hl (by decide) rfl (fun ls hl => ?_)
  refine lv_aload_n hx hb dX1_windSpeed_7 rfl (lv_at hl 0 rfl) ?_
  refine va_alen (v := 4) hx hb hK hP 3 0 rfl rfl rfl dX1_windSpeed_8 ?_
  refine lv_istore_n (lv' := [(3, .int (4 : Int32)), (2, .ref qcs), (1, .int (0 : Int32)), (0, .ref qc)]) hx hb dX1_windSpeed_9 rfl hl (by decide) rfl (fun ls hl => ?_)
  refine lv_iconst (v := 0) hx hb dX1_windSpeed_10 (by decide) ?_
  refine lv_istore (lv' := [(4, .int (0 : Int32)), (3, .int (4 : Int32)), (2, .ref qcs), (1, .int (0 : Int32)), (0, .ref qc)]) hx hb dX1_windSpeed_11 hl (by decide) rfl (fun ls hl => ?_)
  have L13 : ∀ (n13 : Nat) (v1_13 : Int32) (k4_13 : Nat) (hi : k4_13 ≤ 4 ∧ 4 < k4_13 + n13) (ls : Array Slot) (hl : lv_has ls 6 [(1, .int v1_13), (2, .ref qcs), (3, .int (4 : Int32)), (4, .int (nI k4_13))]) (hE : (x_X1_windSpeed cs) = spIter (fun _ _ => default) (x_X1_windSpeed_b13 cs) n13 v1_13 k4_13), W p l e (headSpec wqX1_windSpeed ({ frames := 0, cells := 0, slots := 0, locals := 0 } : Room)).room s m ([.ref qc] : List Value).toArray below meth c s.heap [] 0 0 (MQ below (vp_Si (fun r => r = (x_X1_windSpeed cs))) ([.ref qc] : List Value).toArray s 0 0 aF) (F0 m 13 ls []) := by
    intro n13
    induction n13 with
    | zero =>
      intro v1_13 k4_13 hi ls hl hE
      exact absurd hi (by omega)
    | succ n13 ih13 =>
      intro v1_13 k4_13 hi ls hl hE
      have hE : (x_X1_windSpeed cs) = x_X1_windSpeed_b13 cs (spIter (fun _ _ => default) (x_X1_windSpeed_b13 cs) n13) v1_13 k4_13 := hE
      refine lv_iload hx hb dX1_windSpeed_13 (lv_at hl 3 rfl) ?_
      refine lv_iload_n hx hb dX1_windSpeed_15 rfl (lv_at hl 2 rfl) ?_
      refine lv_icmp_ge (tgt := 40) hx hb dX1_windSpeed_16 (by decide) (fun c_1 => ?_) (fun c_1 => ?_)
      ·
        have c_1 : 4 ≤ k4_13 := by
          have h1 : ((nI k4_13)) = nI k4_13 := rfl
          have h2 : ((4 : Int32)) = nI 4 := rfl
          have h3 : (nI 4 ≤ nI k4_13) := by first | exact c_1 | (rw [← h1, ← h2]; exact c_1)
          exact (nI_leI (by omega) (by omega)).mp h3
        have hE := hE.trans (if_pos c_1)
        refine lv_iload_n hx hb dX1_windSpeed_40 rfl (lv_at hl 0 rfl) ?_
        exact W.iret (v := v1_13) hx hb hr (fun t ht hW => ⟨_, rfl, hE.symm, ht⟩) (fun q h => by cases h) dX1_windSpeed_41
      ·
        have c_1 : ¬ 4 ≤ k4_13 := by
          have h1 : ((nI k4_13)) = nI k4_13 := rfl
          have h2 : ((4 : Int32)) = nI 4 := rfl
          have h3 : ¬ (nI 4 ≤ nI k4_13) := by first | exact c_1 | (rw [← h1, ← h2]; exact c_1)
          exact fun h => h3 ((nI_leI (by omega) (by omega)).mpr h)
        have hE := hE.trans (if_neg c_1)
        refine lv_aload_n hx hb dX1_windSpeed_19 rfl (lv_at hl 1 rfl) ?_
        refine lv_iload hx hb dX1_windSpeed_20 (lv_at hl 3 rfl) ?_
        refine ra_ld hx hb hK hP 3 0 rfl rfl (j := k4_13) (rfl : (nI k4_13) = nI k4_13) (by omega) (by omega) dX1_windSpeed_22 ?_
        refine lv_topi (fun x_2 ex_2 => ?_)
        have hE := hE.trans (spLet_eq ex_2)
        refine lv_istore (lv' := [(5, .int x_2), (1, .int v1_13), (2, .ref qcs), (3, .int (4 : Int32)), (4, .int (nI k4_13))]) hx hb dX1_windSpeed_23 hl (by decide) rfl (fun ls hl => ?_)
        refine lv_iload hx hb dX1_windSpeed_25 (lv_at hl 0 rfl) ?_
        refine lv_iload_n hx hb dX1_windSpeed_27 rfl (lv_at hl 1 rfl) ?_
        have J34 : ∀ (v1_34 : Int32) (ls : Array Slot) (hl : lv_has ls 6 [(1, .int v1_34), (2, .ref qcs), (3, .int (4 : Int32)), (4, .int (nI k4_13))]) (hE : (x_X1_windSpeed cs) = x_X1_windSpeed_j34 k4_13 (spIter (fun _ _ => default) (x_X1_windSpeed_b13 cs) n13) v1_34), W p l e (headSpec wqX1_windSpeed ({ frames := 0, cells := 0, slots := 0, locals := 0 } : Room)).room s m ([.ref qc] : List Value).toArray below meth c s.heap [] 0 0 (MQ below (vp_Si (fun r => r = (x_X1_windSpeed cs))) ([.ref qc] : List Value).toArray s 0 0 aF) (F0 m 34 ls []) := by
          intro v1_34 ls hl hE
          refine lv_iinc (v := (nI (k4_13 + 1))) (lv' := [(4, .int (nI (k4_13 + 1))), (1, .int v1_34), (2, .ref qcs), (3, .int (4 : Int32))]) hx hb dX1_windSpeed_34 hl (k := 3) rfl (show _ from (congrArg (fun z => z + Int32.ofInt 1) (rfl)).trans (ninc _ 1)) (by decide) rfl (fun ls hl => ?_)
          refine lv_goto (tgt := 13) hx hb dX1_windSpeed_37 (by decide) ?_
          exact ih13 v1_34 (k4_13 + 1) (by omega) ls (lv_sub hl [1, 2, 3, 0] rfl) hE
        refine lv_icmp_le (tgt := 34) hx hb dX1_windSpeed_28 (by decide) (fun c_3 => ?_) (fun c_3 => ?_)
        ·
          have hE := hE.trans (if_pos c_3)
          exact J34 v1_13 ls (lv_sub hl [1, 2, 3, 4] rfl) hE
        ·
          have hE := hE.trans (if_neg c_3)
          refine lv_iload hx hb dX1_windSpeed_31 (lv_at hl 0 rfl) ?_
          refine lv_istore_n (lv' := [(1, .int x_2), (5, .int x_2), (2, .ref qcs), (3, .int (4 : Int32)), (4, .int (nI k4_13))]) hx hb dX1_windSpeed_33 rfl hl (by decide) rfl (fun ls hl => ?_)
          exact J34 x_2 ls (lv_sub hl [0, 2, 3, 4] rfl) hE
  exact L13 5 (0 : Int32) 0 (by omega) ls (lv_sub hl [3, 2, 1, 0] rfl) hE
def x_X1_windFactor (cs : Nat → Int32) : Int32 :=
  spLet (x_X1_windSpeed cs) (fun r_1 => spLet ((if (r_1 - (100 : Int32)) < (0 : Int32) then (0 : Int32) else (r_1 - (100 : Int32)))) (fun x_2 => (if ((1000 : Int32) - ((2 : Int32) * x_2)) < (0 : Int32) then (0 : Int32) else ((1000 : Int32) - ((2 : Int32) * x_2)))))
set_option maxHeartbeats 1000000 in
set_option maxRecDepth 100000 in
theorem c_X1_windFactor (l : Launch) (dC : Nat → ClassId) (dI : Nat → Nat → Nat) (cyI : ClassId) (qc : Nat) (qcv : Nat) (qce : Nat) (qcs : Nat) (cw : Int32) (cv : Nat → Int32) (ce : Nat → Int32) (cs : Nat → Int32) : Met l yX1_windFactor wqX1_windFactor ({ frames := 1, cells := 0, slots := 0, locals := 25 } : Room) (va_Pc [.ref qc] (pB (dC, dI) [(qc, .inr (1, [.ref qcv, .ref qce, .ref qcs, .int cw])), (qcv, .inl (cyI, 96, .inl cv)), (qce, .inl (cyI, 4, .inl ce)), (qcs, .inl (cyI, 4, .inl cs))] [(cyI, .int)] eX)) (vp_Si (fun r => r = (x_X1_windFactor cs))) 0 0 aF := by
  refine Met.ofW (cc := cX1_windFactor) (maxL := 2) (ret := (some .int)) (by decide) rfl ?_
  intro p e s m args below meth c s₁ B hml hv
  obtain ⟨rfl, hP, hK, he⟩ := hv
  have hx := B.exec
  have hb := B.bytes
  have hr := B.returns
  have hts := atoms_spec (ws := wqX1_windFactor) B.pre
  have hown : s.vm.findClass RX1 = some m.cls := findClass_of_methodNamed B.named
  have hlocks := B.notSynchronized
  have w_0 := hts (Cond.methodLink RX1 53 Lib.Math.max.name) (List.mem_cons_of_mem _ b_569)
  have w_1 := hts (Cond.static Lib.Math.max.name) (List.mem_cons_of_mem _ b_352)
  have w_2 := hts (Cond.initialized "java/lang/Math") (List.mem_cons_of_mem _ b_128)
  have w_3 := hts (Cond.code Lib.Math.max.name Lib.Math.max.code 2 (some .int)) (List.mem_cons_of_mem _ b_353)
  have hS : va_S aF s.heap s.heap [] := va_S.rf
  have hP : va_P (dC, dI) vwCl [(qc, .inr (1, [.ref qcv, .ref qce, .ref qcs, .int cw])), (qcv, .inl (cyI, 96, .inl cv)), (qce, .inl (cyI, 4, .inl ce)), (qcs, .inl (cyI, 4, .inl cs))] s.heap := hP
  have hl := lv_entry ([.ref qc] : List Value) (n := 2) (Nat.le_of_ble_eq_true rfl)
  rw [lg_entry_eq]
  generalize (lg_sl ([.ref qc] : List Value) ++ List.replicate (2 - (lg_sl ([.ref qc] : List Value)).length) Slot.unset).toArray = ls at hl ⊢
  have hl : lv_has ls 2 [(0, .ref qc)] := hl
  have hE : x_X1_windFactor cs = x_X1_windFactor cs := rfl
  refine lv_aload_n hx hb dX1_windFactor_0 rfl (lv_at hl 0 rfl) ?_
  refine vp_callSi (W.runV (As := []) (rest := []) ⟨hx, hb, hml, hown, hts⟩ (c_X1_windSpeed l dC dI cyI qc qcv qce qcs cw cv ce cs) (cwV 0 hts (gBV b_577 b_415 b_416 b_39 b_417) rfl rfl rfl (by decide +kernel) ⟨Nat.le_of_ble_eq_true rfl, Nat.le_of_ble_eq_true rfl⟩) (pre_v eX_ok he hS hP hK 0 rfl rfl rfl) rfl rfl hl.1 rfl (lv_room (Nat.le_of_ble_eq_true rfl)) dX1_windFactor_1 ⟨Nat.zero_le _, Nat.zero_le _⟩) (fun r_1 hr_1 => ?_)
  have hE := hE.trans (spLet_eq hr_1)
  refine lv_bipush (v := 100) hx hb dX1_windFactor_4 (by decide) ?_
  refine lv_isub hx hb dX1_windFactor_6 ?_
  refine lv_iconst (v := 0) hx hb dX1_windFactor_7 (by decide) ?_
  refine va_mmax hx hb (hml.trans hl.1.symm) hown w_0 w_1 w_2 w_3 (Nat.le_of_ble_eq_true rfl) (Nat.le_of_ble_eq_true rfl) (Nat.le_of_ble_eq_true rfl) (Nat.le_of_ble_eq_true rfl) dX1_windFactor_8 ?_
  refine lv_topi (fun x_2 ex_2 => ?_)
  have hE := hE.trans (spLet_eq ex_2)
  refine lv_istore_n (lv' := [(1, .int x_2), (0, .ref qc)]) hx hb dX1_windFactor_11 rfl hl (by decide) rfl (fun ls hl => ?_)
  refine lv_sipush (v := 1000) hx hb dX1_windFactor_12 (by decide) ?_
  refine lv_iconst (v := 2) hx hb dX1_windFactor_15 (by decide) ?_
  refine lv_iload_n hx hb dX1_windFactor_16 rfl (lv_at hl 0 rfl) ?_
  refine lv_imul hx hb dX1_windFactor_17 ?_
  refine lv_isub hx hb dX1_windFactor_18 ?_
  refine lv_iconst (v := 0) hx hb dX1_windFactor_19 (by decide) ?_
  refine va_mmax hx hb (hml.trans hl.1.symm) hown w_0 w_1 w_2 w_3 (Nat.le_of_ble_eq_true rfl) (Nat.le_of_ble_eq_true rfl) (Nat.le_of_ble_eq_true rfl) (Nat.le_of_ble_eq_true rfl) dX1_windFactor_20 ?_
  exact W.iret (v := (if ((1000 : Int32) - ((2 : Int32) * x_2)) < (0 : Int32) then (0 : Int32) else ((1000 : Int32) - ((2 : Int32) * x_2)))) hx hb hr (fun t ht hW => ⟨_, rfl, hE.symm, ht⟩) (fun q h => by cases h) dX1_windFactor_23
def x_X1_tableAt_j82 (k3_13 : Nat) (rec13 : Int32 → Nat → (Int32)) (v2_82 : Int32) : Int32 :=
  rec13 v2_82 (k3_13 + 1)
def x_X1_tableAt_j58 (ce : Nat → Int32) (v2_13 : Int32) (k3_13 : Nat) (rec13 : Int32 → Nat → (Int32)) (t0_58 : Int32) : Int32 :=
  if t0_58 = 0 then (x_X1_tableAt_j82 k3_13 rec13 v2_13) else (if v2_13 ≤ (ce (k3_13)) then (x_X1_tableAt_j82 k3_13 rec13 v2_13) else (spLet ((ce (k3_13))) (fun x_8 => x_X1_tableAt_j82 k3_13 rec13 x_8)))
def x_X1_tableAt_j53 (ce : Nat → Int32) (v2_13 : Int32) (k3_13 : Nat) (rec13 : Int32 → Nat → (Int32)) : Int32 :=
  x_X1_tableAt_j58 ce v2_13 k3_13 rec13 (1 : Int32)
def x_X1_tableAt_b13 (ce : Nat → Int32) (sl : Int32) (rec13 : Int32 → Nat → (Int32)) : Int32 → Nat → (Int32) :=
  fun v2_13 k3_13 => if 4 ≤ k3_13 then v2_13 else (spLet (x_X8_clockwise (nI (450 + (900 * k3_13))) sl) (fun r_4 => if r_4 < (900 : Int32) then (x_X1_tableAt_j53 ce v2_13 k3_13 rec13) else (if r_4 ≤ (2700 : Int32) then (x_X1_tableAt_j58 ce v2_13 k3_13 rec13 (0 : Int32)) else (x_X1_tableAt_j53 ce v2_13 k3_13 rec13))))
def x_X1_tableAt (cw : Int32) (ce : Nat → Int32) (sl : Int32) : Int32 :=
  if cw = 0 then (spIter (fun _ _ => default) (x_X1_tableAt_b13 ce sl) 5 (2 : Int32) 0) else (3 : Int32)
set_option maxHeartbeats 1000000 in
set_option maxRecDepth 100000 in
theorem c_X1_tableAt (l : Launch) (dC : Nat → ClassId) (dI : Nat → Nat → Nat) (cyI : ClassId) (qc : Nat) (qcv : Nat) (qce : Nat) (qcs : Nat) (cw : Int32) (cv : Nat → Int32) (ce : Nat → Int32) (cs : Nat → Int32) (sl : Int32) : Met l yX1_tableAt wqX1_tableAt ({ frames := 1, cells := 0, slots := 0, locals := 21 } : Room) (va_Pc [.ref qc, .int sl] (pB (dC, dI) [(qc, .inr (1, [.ref qcv, .ref qce, .ref qcs, .int cw])), (qcv, .inl (cyI, 96, .inl cv)), (qce, .inl (cyI, 4, .inl ce)), (qcs, .inl (cyI, 4, .inl cs))] [(cyI, .int)] eX)) (vp_Si (fun r => r = (x_X1_tableAt cw ce sl))) 0 0 aF := by
  refine Met.ofW (cc := cX1_tableAt) (maxL := 6) (ret := (some .int)) (by decide) rfl ?_
  intro p e s m args below meth c s₁ B hml hv
  obtain ⟨rfl, hP, hK, he⟩ := hv
  have hx := B.exec
  have hb := B.bytes
  have hr := B.returns
  have hts := atoms_spec (ws := wqX1_tableAt) B.pre
  have hown : s.vm.findClass RX1 = some m.cls := findClass_of_methodNamed B.named
  have hlocks := B.notSynchronized
  have w_0 := hts (Cond.fieldLink RX1 27 "CraneLimiter$Chart" "onWheels" "Z") (List.mem_cons_of_mem _ b_154)
  have w_1 := hts (Cond.fieldLink RX1 15 "CraneLimiter$Chart" "extensions" "[I") (List.mem_cons_of_mem _ b_63)
  have i_X1 : ∀ w ∈ u_ws RX1 TX1 4, w ∈ wqX1_tableAt := fun w h => List.mem_cons_of_mem _ (bX1 w h)
  have hS : va_S aF s.heap s.heap [] := va_S.rf
  have hP : va_P (dC, dI) vwCl [(qc, .inr (1, [.ref qcv, .ref qce, .ref qcs, .int cw])), (qcv, .inl (cyI, 96, .inl cv)), (qce, .inl (cyI, 4, .inl ce)), (qcs, .inl (cyI, 4, .inl cs))] s.heap := hP
  have hl := lv_entry ([.ref qc, .int sl] : List Value) (n := 6) (Nat.le_of_ble_eq_true rfl)
  rw [lg_entry_eq]
  generalize (lg_sl ([.ref qc, .int sl] : List Value) ++ List.replicate (6 - (lg_sl ([.ref qc, .int sl] : List Value)).length) Slot.unset).toArray = ls at hl ⊢
  have hl : lv_has ls 6 [(0, .ref qc), (1, .int sl)] := hl
  have hE : x_X1_tableAt cw ce sl = x_X1_tableAt cw ce sl := rfl
  refine lv_aload_n hx hb dX1_tableAt_0 rfl (lv_at hl 0 rfl) ?_
  refine va_get (D := (dC, dI)) (ci := 1) (v := .int cw) (C := RX1) (T := TX1) (N := 4) hx hb hts i_X1 hown hK hP 0 rfl rfl 3 (by decide) w_0 (fun _ h9 => h9) rfl dX1_tableAt_1 ?_
  refine lv_if_eq (tgt := 9) hx hb dX1_tableAt_4 (by decide) (fun c_1 => ?_) (fun c_1 => ?_)
  ·
    have hE := hE.trans (if_pos c_1)
    refine lv_iconst (v := 2) hx hb dX1_tableAt_9 (by decide) ?_
    refine lv_istore_n (lv' := [(2, .int (2 : Int32)), (0, .ref qc), (1, .int sl)]) hx hb dX1_tableAt_10 rfl hl (by decide) rfl (fun ls hl => ?_)
    refine lv_iconst (v := 0) hx hb dX1_tableAt_11 (by decide) ?_
    refine lv_istore_n (lv' := [(3, .int (0 : Int32)), (2, .int (2 : Int32)), (0, .ref qc), (1, .int sl)]) hx hb dX1_tableAt_12 rfl hl (by decide) rfl (fun ls hl => ?_)
    have L13 : ∀ (n13 : Nat) (v2_13 : Int32) (k3_13 : Nat) (hi : k3_13 ≤ 4 ∧ 4 < k3_13 + n13) (ls : Array Slot) (hl : lv_has ls 6 [(0, .ref qc), (1, .int sl), (2, .int v2_13), (3, .int (nI k3_13))]) (hE : (x_X1_tableAt cw ce sl) = spIter (fun _ _ => default) (x_X1_tableAt_b13 ce sl) n13 v2_13 k3_13), W p l e (headSpec wqX1_tableAt ({ frames := 1, cells := 0, slots := 0, locals := 21 } : Room)).room s m ([.ref qc, .int sl] : List Value).toArray below meth c s.heap [] 0 0 (MQ below (vp_Si (fun r => r = (x_X1_tableAt cw ce sl))) ([.ref qc, .int sl] : List Value).toArray s 0 0 aF) (F0 m 13 ls []) := by
      intro n13
      induction n13 with
      | zero =>
        intro v2_13 k3_13 hi ls hl hE
        exact absurd hi (by omega)
      | succ n13 ih13 =>
        intro v2_13 k3_13 hi ls hl hE
        have hE : (x_X1_tableAt cw ce sl) = x_X1_tableAt_b13 ce sl (spIter (fun _ _ => default) (x_X1_tableAt_b13 ce sl) n13) v2_13 k3_13 := hE
        refine lv_iload_n hx hb dX1_tableAt_13 rfl (lv_at hl 3 rfl) ?_
        refine lv_aload_n hx hb dX1_tableAt_14 rfl (lv_at hl 0 rfl) ?_
        refine va_get (D := (dC, dI)) (ci := 1) (v := .ref qce) (C := RX1) (T := TX1) (N := 4) hx hb hts i_X1 hown hK hP 0 rfl rfl 1 (by decide) w_1 (fun _ h9 => h9) rfl dX1_tableAt_15 ?_
        refine va_alen (v := 4) hx hb hK hP 2 0 rfl rfl rfl dX1_tableAt_18 ?_
        refine lv_icmp_ge (tgt := 88) hx hb dX1_tableAt_19 (by decide) (fun c_2 => ?_) (fun c_2 => ?_)
        ·
          have c_2 : 4 ≤ k3_13 := by
            have h1 : ((nI k3_13)) = nI k3_13 := rfl
            have h2 : ((4 : Int32)) = nI 4 := rfl
            have h3 : (nI 4 ≤ nI k3_13) := by first | exact c_2 | (rw [← h1, ← h2]; exact c_2)
            exact (nI_leI (by omega) (by omega)).mp h3
          have hE := hE.trans (if_pos c_2)
          refine lv_iload_n hx hb dX1_tableAt_88 rfl (lv_at hl 2 rfl) ?_
          exact W.iret (v := v2_13) hx hb hr (fun t ht hW => ⟨_, rfl, hE.symm, ht⟩) (fun q h => by cases h) dX1_tableAt_89
        ·
          have c_2 : ¬ 4 ≤ k3_13 := by
            have h1 : ((nI k3_13)) = nI k3_13 := rfl
            have h2 : ((4 : Int32)) = nI 4 := rfl
            have h3 : ¬ (nI 4 ≤ nI k3_13) := by first | exact c_2 | (rw [← h1, ← h2]; exact c_2)
            exact fun h => h3 ((nI_leI (by omega) (by omega)).mpr h)
          have hE := hE.trans (if_neg c_2)
          refine lv_sipush (v := 450) hx hb dX1_tableAt_22 (by decide) ?_
          refine lv_sipush (v := 900) hx hb dX1_tableAt_25 (by decide) ?_
          refine lv_iload_n hx hb dX1_tableAt_28 rfl (lv_at hl 3 rfl) ?_
          refine lv_imul hx hb dX1_tableAt_29 ?_
          refine lv_iadd hx hb dX1_tableAt_30 ?_
          refine lv_topi (fun y_3 ey_3 => ?_)
          obtain rfl : y_3 = nI (450 + (900 * k3_13)) := ey_3.trans (nadd (rfl : (450 : Int32) = nI 450) (nmul (rfl : (900 : Int32) = nI 900) (rfl : (nI k3_13) = nI k3_13)))
          refine lv_iload_n hx hb dX1_tableAt_31 rfl (lv_at hl 1 rfl) ?_
          refine vp_callSi (cr_of (va_runSN (As := [.int (nI (450 + (900 * k3_13))), .int sl]) (rest := []) ⟨hx, hb, hml, hown, hts⟩ (c_X8_clockwise l dC dI cyI (nI (450 + (900 * k3_13))) sl) ⟨(va_cnB 2 hts (wB_in b_368) rfl rfl rfl he.n0 (hts _ (List.mem_cons_of_mem _ b_2)) (by decide +kernel) ⟨Nat.le_of_ble_eq_true rfl, Nat.le_of_ble_eq_true rfl⟩), hts _ (List.mem_cons_of_mem _ b_367), trivial⟩ (pre_s eX_ok he hS (hP.sub (ws' := []) [] rfl) (hK.sub (tys' := []) [] rfl)) rfl rfl hl.1 rfl (lv_room (Nat.le_of_ble_eq_true rfl)) dX1_tableAt_32 ⟨Nat.zero_le _, Nat.zero_le _⟩)) (fun r_4 hr_4 => ?_)
          have hE := hE.trans (spLet_eq hr_4)
          refine lv_istore (lv' := [(4, .int r_4), (0, .ref qc), (1, .int sl), (2, .int v2_13), (3, .int (nI k3_13))]) hx hb dX1_tableAt_35 hl (by decide) rfl (fun ls hl => ?_)
          refine lv_iload hx hb dX1_tableAt_37 (lv_at hl 0 rfl) ?_
          refine lv_sipush (v := 900) hx hb dX1_tableAt_39 (by decide) ?_
          have J58 : ∀ (t0_58 : Int32) (ls : Array Slot) (hl : lv_has ls 6 [(0, .ref qc), (1, .int sl), (2, .int v2_13), (3, .int (nI k3_13))]) (hE : (x_X1_tableAt cw ce sl) = x_X1_tableAt_j58 ce v2_13 k3_13 (spIter (fun _ _ => default) (x_X1_tableAt_b13 ce sl) n13) t0_58), W p l e (headSpec wqX1_tableAt ({ frames := 1, cells := 0, slots := 0, locals := 21 } : Room)).room s m ([.ref qc, .int sl] : List Value).toArray below meth c s.heap [] 0 0 (MQ below (vp_Si (fun r => r = (x_X1_tableAt cw ce sl))) ([.ref qc, .int sl] : List Value).toArray s 0 0 aF) (F0 m 58 ls [.int t0_58]) := by
            intro t0_58 ls hl hE
            refine lv_istore (lv' := [(5, .int t0_58), (0, .ref qc), (1, .int sl), (2, .int v2_13), (3, .int (nI k3_13))]) hx hb dX1_tableAt_58 hl (by decide) rfl (fun ls hl => ?_)
            refine lv_iload hx hb dX1_tableAt_60 (lv_at hl 0 rfl) ?_
            have J82 : ∀ (v2_82 : Int32) (ls : Array Slot) (hl : lv_has ls 6 [(0, .ref qc), (1, .int sl), (2, .int v2_82), (3, .int (nI k3_13))]) (hE : (x_X1_tableAt cw ce sl) = x_X1_tableAt_j82 k3_13 (spIter (fun _ _ => default) (x_X1_tableAt_b13 ce sl) n13) v2_82), W p l e (headSpec wqX1_tableAt ({ frames := 1, cells := 0, slots := 0, locals := 21 } : Room)).room s m ([.ref qc, .int sl] : List Value).toArray below meth c s.heap [] 0 0 (MQ below (vp_Si (fun r => r = (x_X1_tableAt cw ce sl))) ([.ref qc, .int sl] : List Value).toArray s 0 0 aF) (F0 m 82 ls []) := by
              intro v2_82 ls hl hE
              refine lv_iinc (v := (nI (k3_13 + 1))) (lv' := [(3, .int (nI (k3_13 + 1))), (0, .ref qc), (1, .int sl), (2, .int v2_82)]) hx hb dX1_tableAt_82 hl (k := 3) rfl (show _ from (congrArg (fun z => z + Int32.ofInt 1) (rfl)).trans (ninc _ 1)) (by decide) rfl (fun ls hl => ?_)
              refine lv_goto (tgt := 13) hx hb dX1_tableAt_85 (by decide) ?_
              exact ih13 v2_82 (k3_13 + 1) (by omega) ls (lv_sub hl [1, 2, 3, 0] rfl) hE
            refine lv_if_eq (tgt := 82) hx hb dX1_tableAt_62 (by decide) (fun c_6 => ?_) (fun c_6 => ?_)
            ·
              have hE := hE.trans (if_pos c_6)
              exact J82 v2_13 ls (lv_sub hl [1, 2, 3, 4] rfl) hE
            ·
              have hE := hE.trans (if_neg c_6)
              refine lv_aload_n hx hb dX1_tableAt_65 rfl (lv_at hl 1 rfl) ?_
              refine va_get (D := (dC, dI)) (ci := 1) (v := .ref qce) (C := RX1) (T := TX1) (N := 4) hx hb hts i_X1 hown hK hP 0 rfl rfl 1 (by decide) w_1 (fun _ h9 => h9) rfl dX1_tableAt_66 ?_
              refine lv_iload_n hx hb dX1_tableAt_69 rfl (lv_at hl 4 rfl) ?_
              refine ra_ld hx hb hK hP 2 0 rfl rfl (j := k3_13) (rfl : (nI k3_13) = nI k3_13) (by omega) (by omega) dX1_tableAt_70 ?_
              refine lv_iload_n hx hb dX1_tableAt_71 rfl (lv_at hl 3 rfl) ?_
              refine lv_icmp_ge (tgt := 82) hx hb dX1_tableAt_72 (by decide) (fun c_7 => ?_) (fun c_7 => ?_)
              ·
                have hE := hE.trans (if_pos c_7)
                exact J82 v2_13 ls (lv_sub hl [1, 2, 3, 4] rfl) hE
              ·
                have hE := hE.trans (if_neg c_7)
                refine lv_aload_n hx hb dX1_tableAt_75 rfl (lv_at hl 1 rfl) ?_
                refine va_get (D := (dC, dI)) (ci := 1) (v := .ref qce) (C := RX1) (T := TX1) (N := 4) hx hb hts i_X1 hown hK hP 0 rfl rfl 1 (by decide) w_1 (fun _ h9 => h9) rfl dX1_tableAt_76 ?_
                refine lv_iload_n hx hb dX1_tableAt_79 rfl (lv_at hl 4 rfl) ?_
                refine ra_ld hx hb hK hP 2 0 rfl rfl (j := k3_13) (rfl : (nI k3_13) = nI k3_13) (by omega) (by omega) dX1_tableAt_80 ?_
                refine lv_topi (fun x_8 ex_8 => ?_)
                have hE := hE.trans (spLet_eq ex_8)
                refine lv_istore_n (lv' := [(2, .int x_8), (5, .int t0_58), (0, .ref qc), (1, .int sl), (3, .int (nI k3_13))]) hx hb dX1_tableAt_81 rfl hl (by decide) rfl (fun ls hl => ?_)
                exact J82 x_8 ls (lv_sub hl [2, 3, 0, 4] rfl) hE
          have J53 : ∀ (ls : Array Slot) (hl : lv_has ls 6 [(0, .ref qc), (1, .int sl), (2, .int v2_13), (3, .int (nI k3_13))]) (hE : (x_X1_tableAt cw ce sl) = x_X1_tableAt_j53 ce v2_13 k3_13 (spIter (fun _ _ => default) (x_X1_tableAt_b13 ce sl) n13)), W p l e (headSpec wqX1_tableAt ({ frames := 1, cells := 0, slots := 0, locals := 21 } : Room)).room s m ([.ref qc, .int sl] : List Value).toArray below meth c s.heap [] 0 0 (MQ below (vp_Si (fun r => r = (x_X1_tableAt cw ce sl))) ([.ref qc, .int sl] : List Value).toArray s 0 0 aF) (F0 m 53 ls []) := by
            intro ls hl hE
            refine lv_iconst (v := 1) hx hb dX1_tableAt_53 (by decide) ?_
            refine lv_goto (tgt := 58) hx hb dX1_tableAt_54 (by decide) ?_
            exact J58 (1 : Int32) ls (lv_sub hl [0, 1, 2, 3] rfl) hE
          refine lv_icmp_lt (tgt := 53) hx hb dX1_tableAt_42 (by decide) (fun c_5 => ?_) (fun c_5 => ?_)
          ·
            have hE := hE.trans (if_pos c_5)
            exact J53 ls (lv_sub hl [1, 2, 3, 4] rfl) hE
          ·
            have hE := hE.trans (if_neg c_5)
            refine lv_iload hx hb dX1_tableAt_45 (lv_at hl 0 rfl) ?_
            refine lv_sipush (v := 2700) hx hb dX1_tableAt_47 (by decide) ?_
            refine lv_icmp_le (tgt := 57) hx hb dX1_tableAt_50 (by decide) (fun c_9 => ?_) (fun c_9 => ?_)
            ·
              have hE := hE.trans (if_pos c_9)
              refine lv_iconst (v := 0) hx hb dX1_tableAt_57 (by decide) ?_
              exact J58 (0 : Int32) ls (lv_sub hl [1, 2, 3, 4] rfl) hE
            ·
              have hE := hE.trans (if_neg c_9)
              exact J53 ls (lv_sub hl [1, 2, 3, 4] rfl) hE
    exact L13 5 (2 : Int32) 0 (by omega) ls (lv_sub hl [2, 3, 1, 0] rfl) hE
  ·
    have hE := hE.trans (if_neg c_1)
    refine lv_iconst (v := 3) hx hb dX1_tableAt_7 (by decide) ?_
    exact W.iret (v := (3 : Int32)) hx hb hr (fun t ht hW => ⟨_, rfl, hE.symm, ht⟩) (fun q h => by cases h) dX1_tableAt_8
def x_X1_hash_b69 (cv : Nat → Int32) (rec69 : Int64 → Nat → (Int64)) : Int64 → Nat → (Int64) :=
  fun v3_69 k5_69 => if 4 ≤ k5_69 then v3_69 else (spLet (x_X1_sum cv (nI k5_69)) (fun r_5 => spLet ((((31 : Int64) * v3_69) + r_5.toInt64)) (fun x_6 => rec69 x_6 (k5_69 + 1))))
def x_X1_hash_j63 (cv : Nat → Int32) (v3_16 : Int64) (t0_63 : Int32) : Int64 :=
  spLet ((((31 : Int64) * v3_16) + t0_63.toInt64)) (fun x_3 => spIter (fun _ _ => default) (x_X1_hash_b69 cv) 5 x_3 0)
def x_X1_hash_b16 (cw : Int32) (cv : Nat → Int32) (ce : Nat → Int32) (rec16 : Int64 → Nat → (Int64)) : Int64 → Nat → (Int64) :=
  fun v3_16 k7_16 => if 4 ≤ k7_16 then (if cw = 0 then (x_X1_hash_j63 cv v3_16 (0 : Int32)) else (x_X1_hash_j63 cv v3_16 (1 : Int32))) else (spLet ((ce (k7_16))) (fun x_7 => spLet ((((31 : Int64) * v3_16) + x_7.toInt64)) (fun x_8 => rec16 x_8 (k7_16 + 1))))
def x_X1_hash (cw : Int32) (cv : Nat → Int32) (ce : Nat → Int32) (sta : Int64) : Int64 :=
  spIter (fun _ _ => default) (x_X1_hash_b16 cw cv ce) 5 sta 0
set_option maxHeartbeats 1000000 in
set_option maxRecDepth 100000 in
theorem c_X1_hash (l : Launch) (dC : Nat → ClassId) (dI : Nat → Nat → Nat) (cyI : ClassId) (qc : Nat) (qcv : Nat) (qce : Nat) (qcs : Nat) (cw : Int32) (cv : Nat → Int32) (ce : Nat → Int32) (cs : Nat → Int32) (sta : Int64) : Met l yX1_hash wqX1_hash ({ frames := 2, cells := 0, slots := 0, locals := 48 } : Room) (va_Pc [.ref qc, .long sta] (pB (dC, dI) [(qc, .inr (1, [.ref qcv, .ref qce, .ref qcs, .int cw])), (qcv, .inl (cyI, 96, .inl cv)), (qce, .inl (cyI, 4, .inl ce)), (qcs, .inl (cyI, 4, .inl cs))] [(cyI, .int)] eX)) (vp_Sl (fun r => r = (x_X1_hash cw cv ce sta))) 0 0 aF := by
  refine Met.ofW (cc := cX1_hash) (maxL := 9) (ret := (some .long)) (by decide) rfl ?_
  intro p e s m args below meth c s₁ B hml hv
  obtain ⟨rfl, hP, hK, he⟩ := hv
  have hx := B.exec
  have hb := B.bytes
  have hr := B.returns
  have hts := atoms_spec (ws := wqX1_hash) B.pre
  have hown : s.vm.findClass RX1 = some m.cls := findClass_of_methodNamed B.named
  have hlocks := B.notSynchronized
  have w_0 := hts (Cond.fieldLink RX1 15 "CraneLimiter$Chart" "extensions" "[I") (List.mem_cons_of_mem _ b_63)
  have w_1 := hts (Cond.constantLong RX1 76 (31)) (List.mem_cons_of_mem _ b_1027)
  have w_2 := hts (Cond.fieldLink RX1 27 "CraneLimiter$Chart" "onWheels" "Z") (List.mem_cons_of_mem _ b_154)
  have i_X1 : ∀ w ∈ u_ws RX1 TX1 4, w ∈ wqX1_hash := fun w h => List.mem_cons_of_mem _ (bX1 w h)
  have hS : va_S aF s.heap s.heap [] := va_S.rf
  have hP : va_P (dC, dI) vwCl [(qc, .inr (1, [.ref qcv, .ref qce, .ref qcs, .int cw])), (qcv, .inl (cyI, 96, .inl cv)), (qce, .inl (cyI, 4, .inl ce)), (qcs, .inl (cyI, 4, .inl cs))] s.heap := hP
  have hl := lv_entry ([.ref qc, .long sta] : List Value) (n := 9) (Nat.le_of_ble_eq_true rfl)
  rw [lg_entry_eq]
  generalize (lg_sl ([.ref qc, .long sta] : List Value) ++ List.replicate (9 - (lg_sl ([.ref qc, .long sta] : List Value)).length) Slot.unset).toArray = ls at hl ⊢
  have hl : lv_has ls 9 [(0, .ref qc), (1, .long sta)] := hl
  have hE : x_X1_hash cw cv ce sta = x_X1_hash cw cv ce sta := rfl
  refine lv_lload_n hx hb dX1_hash_0 rfl (lv_at hl 1 rfl) ?_
  refine lv_lstore_n (lv' := [(3, .long sta), (0, .ref qc), (1, .long sta)]) hx hb dX1_hash_1 rfl hl (by decide) rfl (fun ls hl => ?_)
  refine lv_aload_n hx hb dX1_hash_2 rfl (lv_at hl 1 rfl) ?_
  refine va_get (D := (dC, dI)) (ci := 1) (v := .ref qce) (C := RX1) (T := TX1) (N := 4) hx hb hts i_X1 hown hK hP 0 rfl rfl 1 (by decide) w_0 (fun _ h9 => h9) rfl dX1_hash_3 ?_
  refine lv_astore (lv' := [(5, .ref qce), (3, .long sta), (0, .ref qc), (1, .long sta)]) hx hb dX1_hash_6 hl (by decide) rfl (fun ls hl => ?_)
  refine lv_aload hx hb dX1_hash_8 (lv_at hl 0 rfl) ?_
  refine va_alen (v := 4) hx hb hK hP 2 0 rfl rfl rfl dX1_hash_10 ?_
  refine lv_istore (lv' := [(6, .int (4 : Int32)), (5, .ref qce), (3, .long sta), (0, .ref qc), (1, .long sta)]) hx hb dX1_hash_11 hl (by decide) rfl (fun ls hl => ?_)
  refine lv_iconst (v := 0) hx hb dX1_hash_13 (by decide) ?_
  refine lv_istore (lv' := [(7, .int (0 : Int32)), (6, .int (4 : Int32)), (5, .ref qce), (3, .long sta), (0, .ref qc), (1, .long sta)]) hx hb dX1_hash_14 hl (by decide) rfl (fun ls hl => ?_)
  have L16 : ∀ (n16 : Nat) (v3_16 : Int64) (k7_16 : Nat) (hi : k7_16 ≤ 4 ∧ 4 < k7_16 + n16) (ls : Array Slot) (hl : lv_has ls 9 [(0, .ref qc), (3, .long v3_16), (5, .ref qce), (6, .int (4 : Int32)), (7, .int (nI k7_16))]) (hE : (x_X1_hash cw cv ce sta) = spIter (fun _ _ => default) (x_X1_hash_b16 cw cv ce) n16 v3_16 k7_16), W p l e (headSpec wqX1_hash ({ frames := 2, cells := 0, slots := 0, locals := 48 } : Room)).room s m ([.ref qc, .long sta] : List Value).toArray below meth c s.heap [] 0 0 (MQ below (vp_Sl (fun r => r = (x_X1_hash cw cv ce sta))) ([.ref qc, .long sta] : List Value).toArray s 0 0 aF) (F0 m 16 ls []) := by
    intro n16
    induction n16 with
    | zero =>
      intro v3_16 k7_16 hi ls hl hE
      exact absurd hi (by omega)
    | succ n16 ih16 =>
      intro v3_16 k7_16 hi ls hl hE
      have hE : (x_X1_hash cw cv ce sta) = x_X1_hash_b16 cw cv ce (spIter (fun _ _ => default) (x_X1_hash_b16 cw cv ce) n16) v3_16 k7_16 := hE
      refine lv_iload hx hb dX1_hash_16 (lv_at hl 4 rfl) ?_
      refine lv_iload hx hb dX1_hash_18 (lv_at hl 3 rfl) ?_
      refine lv_icmp_ge (tgt := 46) hx hb dX1_hash_20 (by decide) (fun c_1 => ?_) (fun c_1 => ?_)
      ·
        have c_1 : 4 ≤ k7_16 := by
          have h1 : ((nI k7_16)) = nI k7_16 := rfl
          have h2 : ((4 : Int32)) = nI 4 := rfl
          have h3 : (nI 4 ≤ nI k7_16) := by first | exact c_1 | (rw [← h1, ← h2]; exact c_1)
          exact (nI_leI (by omega) (by omega)).mp h3
        have hE := hE.trans (if_pos c_1)
        refine lv_ldc2 (v := 31) hx hb hown w_1 dX1_hash_46 ?_
        refine lv_lload_n hx hb dX1_hash_49 rfl (lv_at hl 1 rfl) ?_
        refine lv_lmul hx hb dX1_hash_50 ?_
        refine lv_aload_n hx hb dX1_hash_51 rfl (lv_at hl 0 rfl) ?_
        refine va_get (D := (dC, dI)) (ci := 1) (v := .int cw) (C := RX1) (T := TX1) (N := 4) hx hb hts i_X1 hown hK hP 0 rfl rfl 3 (by decide) w_2 (fun _ h9 => h9) rfl dX1_hash_52 ?_
        have J63 : ∀ (t0_63 : Int32) (ls : Array Slot) (hl : lv_has ls 9 [(0, .ref qc)]) (hE : (x_X1_hash cw cv ce sta) = x_X1_hash_j63 cv v3_16 t0_63), W p l e (headSpec wqX1_hash ({ frames := 2, cells := 0, slots := 0, locals := 48 } : Room)).room s m ([.ref qc, .long sta] : List Value).toArray below meth c s.heap [] 0 0 (MQ below (vp_Sl (fun r => r = (x_X1_hash cw cv ce sta))) ([.ref qc, .long sta] : List Value).toArray s 0 0 aF) (F0 m 63 ls [.int t0_63, .long ((31 : Int64) * v3_16)]) := by
          intro t0_63 ls hl hE
          refine lv_i2l hx hb dX1_hash_63 rfl ?_
          refine lv_ladd hx hb dX1_hash_64 ?_
          refine lv_topl (fun x_3 ex_3 => ?_)
          have hE := hE.trans (spLet_eq ex_3)
          refine lv_lstore_n (lv' := [(3, .long x_3), (0, .ref qc)]) hx hb dX1_hash_65 rfl hl (by decide) rfl (fun ls hl => ?_)
          refine lv_iconst (v := 0) hx hb dX1_hash_66 (by decide) ?_
          refine lv_istore (lv' := [(5, .int (0 : Int32)), (3, .long x_3), (0, .ref qc)]) hx hb dX1_hash_67 hl (by decide) rfl (fun ls hl => ?_)
          have L69 : ∀ (n69 : Nat) (v3_69 : Int64) (k5_69 : Nat) (hi : k5_69 ≤ 4 ∧ 4 < k5_69 + n69) (ls : Array Slot) (hl : lv_has ls 9 [(0, .ref qc), (3, .long v3_69), (5, .int (nI k5_69))]) (hE : (x_X1_hash cw cv ce sta) = spIter (fun _ _ => default) (x_X1_hash_b69 cv) n69 v3_69 k5_69), W p l e (headSpec wqX1_hash ({ frames := 2, cells := 0, slots := 0, locals := 48 } : Room)).room s m ([.ref qc, .long sta] : List Value).toArray below meth c s.heap [] 0 0 (MQ below (vp_Sl (fun r => r = (x_X1_hash cw cv ce sta))) ([.ref qc, .long sta] : List Value).toArray s 0 0 aF) (F0 m 69 ls []) := by
            intro n69
            induction n69 with
            | zero =>
              intro v3_69 k5_69 hi ls hl hE
              exact absurd hi (by omega)
            | succ n69 ih69 =>
              intro v3_69 k5_69 hi ls hl hE
              have hE : (x_X1_hash cw cv ce sta) = x_X1_hash_b69 cv (spIter (fun _ _ => default) (x_X1_hash_b69 cv) n69) v3_69 k5_69 := hE
              refine lv_iload hx hb dX1_hash_69 (lv_at hl 2 rfl) ?_
              refine lv_iconst (v := 4) hx hb dX1_hash_71 (by decide) ?_
              refine lv_icmp_ge (tgt := 95) hx hb dX1_hash_72 (by decide) (fun c_4 => ?_) (fun c_4 => ?_)
              ·
                have c_4 : 4 ≤ k5_69 := by
                  have h1 : ((nI k5_69)) = nI k5_69 := rfl
                  have h2 : ((4 : Int32)) = nI 4 := rfl
                  have h3 : (nI 4 ≤ nI k5_69) := by first | exact c_4 | (rw [← h1, ← h2]; exact c_4)
                  exact (nI_leI (by omega) (by omega)).mp h3
                have hE := hE.trans (if_pos c_4)
                refine lv_lload_n hx hb dX1_hash_95 rfl (lv_at hl 1 rfl) ?_
                exact W.lret (v := v3_69) hx hb hr (fun t ht hW => ⟨_, rfl, hE.symm, ht⟩) (fun q h => by cases h) dX1_hash_96
              ·
                have c_4 : ¬ 4 ≤ k5_69 := by
                  have h1 : ((nI k5_69)) = nI k5_69 := rfl
                  have h2 : ((4 : Int32)) = nI 4 := rfl
                  have h3 : ¬ (nI 4 ≤ nI k5_69) := by first | exact c_4 | (rw [← h1, ← h2]; exact c_4)
                  exact fun h => h3 ((nI_leI (by omega) (by omega)).mpr h)
                have hE := hE.trans (if_neg c_4)
                refine lv_ldc2 (v := 31) hx hb hown w_1 dX1_hash_75 ?_
                refine lv_lload_n hx hb dX1_hash_78 rfl (lv_at hl 1 rfl) ?_
                refine lv_lmul hx hb dX1_hash_79 ?_
                refine lv_aload_n hx hb dX1_hash_80 rfl (lv_at hl 0 rfl) ?_
                refine lv_iload hx hb dX1_hash_81 (lv_at hl 2 rfl) ?_
                refine vp_callSi (W.runV (As := [.int (nI k5_69)]) (rest := [.long ((31 : Int64) * v3_69)]) ⟨hx, hb, hml, hown, hts⟩ (c_X1_sum l dC dI cyI qc qcv qce qcs cw cv ce cs (nI k5_69)) (cwV 1 hts (gBV b_1028 b_255 b_256 b_39 b_257) rfl rfl rfl (by decide +kernel) ⟨Nat.le_of_ble_eq_true rfl, Nat.le_of_ble_eq_true rfl⟩) (pre_v eX_ok he hS hP hK 0 rfl rfl rfl) rfl rfl hl.1 rfl (lv_room (Nat.le_of_ble_eq_true rfl)) dX1_hash_83 ⟨Nat.zero_le _, Nat.zero_le _⟩) (fun r_5 hr_5 => ?_)
                have hE := hE.trans (spLet_eq hr_5)
                refine lv_i2l hx hb dX1_hash_86 rfl ?_
                refine lv_ladd hx hb dX1_hash_87 ?_
                refine lv_topl (fun x_6 ex_6 => ?_)
                have hE := hE.trans (spLet_eq ex_6)
                refine lv_lstore_n (lv' := [(3, .long x_6), (0, .ref qc), (5, .int (nI k5_69))]) hx hb dX1_hash_88 rfl hl (by decide) rfl (fun ls hl => ?_)
                refine lv_iinc (v := (nI (k5_69 + 1))) (lv' := [(5, .int (nI (k5_69 + 1))), (3, .long x_6), (0, .ref qc)]) hx hb dX1_hash_89 hl (k := 2) rfl (show _ from (congrArg (fun z => z + Int32.ofInt 1) (rfl)).trans (ninc _ 1)) (by decide) rfl (fun ls hl => ?_)
                refine lv_goto (tgt := 69) hx hb dX1_hash_92 (by decide) ?_
                exact ih69 x_6 (k5_69 + 1) (by omega) ls (lv_sub hl [2, 1, 0] rfl) hE
          exact L69 5 x_3 0 (by omega) ls (lv_sub hl [2, 1, 0] rfl) hE
        refine lv_if_eq (tgt := 62) hx hb dX1_hash_55 (by decide) (fun c_2 => ?_) (fun c_2 => ?_)
        ·
          have hE := hE.trans (if_pos c_2)
          refine lv_iconst (v := 0) hx hb dX1_hash_62 (by decide) ?_
          exact J63 (0 : Int32) ls (lv_sub hl [0] rfl) hE
        ·
          have hE := hE.trans (if_neg c_2)
          refine lv_iconst (v := 1) hx hb dX1_hash_58 (by decide) ?_
          refine lv_goto (tgt := 63) hx hb dX1_hash_59 (by decide) ?_
          exact J63 (1 : Int32) ls (lv_sub hl [0] rfl) hE
      ·
        have c_1 : ¬ 4 ≤ k7_16 := by
          have h1 : ((nI k7_16)) = nI k7_16 := rfl
          have h2 : ((4 : Int32)) = nI 4 := rfl
          have h3 : ¬ (nI 4 ≤ nI k7_16) := by first | exact c_1 | (rw [← h1, ← h2]; exact c_1)
          exact fun h => h3 ((nI_leI (by omega) (by omega)).mpr h)
        have hE := hE.trans (if_neg c_1)
        refine lv_aload hx hb dX1_hash_23 (lv_at hl 2 rfl) ?_
        refine lv_iload hx hb dX1_hash_25 (lv_at hl 4 rfl) ?_
        refine ra_ld hx hb hK hP 2 0 rfl rfl (j := k7_16) (rfl : (nI k7_16) = nI k7_16) (by omega) (by omega) dX1_hash_27 ?_
        refine lv_topi (fun x_7 ex_7 => ?_)
        have hE := hE.trans (spLet_eq ex_7)
        refine lv_istore (lv' := [(8, .int x_7), (0, .ref qc), (3, .long v3_16), (5, .ref qce), (6, .int (4 : Int32)), (7, .int (nI k7_16))]) hx hb dX1_hash_28 hl (by decide) rfl (fun ls hl => ?_)
        refine lv_ldc2 (v := 31) hx hb hown w_1 dX1_hash_30 ?_
        refine lv_lload_n hx hb dX1_hash_33 rfl (lv_at hl 2 rfl) ?_
        refine lv_lmul hx hb dX1_hash_34 ?_
        refine lv_iload hx hb dX1_hash_35 (lv_at hl 0 rfl) ?_
        refine lv_i2l hx hb dX1_hash_37 rfl ?_
        refine lv_ladd hx hb dX1_hash_38 ?_
        refine lv_topl (fun x_8 ex_8 => ?_)
        have hE := hE.trans (spLet_eq ex_8)
        refine lv_lstore_n (lv' := [(3, .long x_8), (8, .int x_7), (0, .ref qc), (5, .ref qce), (6, .int (4 : Int32)), (7, .int (nI k7_16))]) hx hb dX1_hash_39 rfl hl (by decide) rfl (fun ls hl => ?_)
        refine lv_iinc (v := (nI (k7_16 + 1))) (lv' := [(7, .int (nI (k7_16 + 1))), (3, .long x_8), (8, .int x_7), (0, .ref qc), (5, .ref qce), (6, .int (4 : Int32))]) hx hb dX1_hash_40 hl (k := 5) rfl (show _ from (congrArg (fun z => z + Int32.ofInt 1) (rfl)).trans (ninc _ 1)) (by decide) rfl (fun ls hl => ?_)
        refine lv_goto (tgt := 16) hx hb dX1_hash_43 (by decide) ?_
        exact ih16 x_8 (k7_16 + 1) (by omega) ls (lv_sub hl [3, 1, 4, 5, 0] rfl) hE
  exact L16 5 sta 0 (by omega) ls (lv_sub hl [4, 3, 2, 1, 0] rfl) hE
set_option maxHeartbeats 1000000 in
set_option maxRecDepth 100000 in
theorem c_X1_copyFrom (l : Launch) (dC : Nat → ClassId) (dI : Nat → Nat → Nat) (cyI : ClassId) (sz : Nat) (qc : Nat) (qcv : Nat) (qce : Nat) (qcs : Nat) (cw : Int32) (cv : Nat → Int32) (ce : Nat → Int32) (cs : Nat → Int32) (qo : Nat) (qov : Nat) (qoe : Nat) (qos : Nat) (ow : Int32) (ov : Nat → Int32) (oe : Nat → Int32) (os : Nat → Int32) (how : ow = 0 ∨ ow = 1) : Met l yX1_copyFrom wqX1_copyFrom ({ frames := 1, cells := 0, slots := 0, locals := 18 } : Room) (va_Pc [.ref qc, .ref qo] (pC (dC, dI) [(qc, .inr (1, [.ref qcv, .ref qce, .ref qcs, .int cw])), (qcv, .inl (cyI, 96, .inl cv)), (qce, .inl (cyI, 4, .inl ce)), (qcs, .inl (cyI, 4, .inl cs)), (qo, .inr (1, [.ref qov, .ref qoe, .ref qos, .int ow])), (qov, .inl (cyI, 96, .inl ov)), (qoe, .inl (cyI, 4, .inl oe)), (qos, .inl (cyI, 4, .inl os))] [(cyI, .int)] eX sz)) (va_Qv (fun u : Unit => True) (fun (u : Unit) t => va_P (dC, dI) vwCl [(qc, .inr (1, [.ref qcv, .ref qce, .ref qcs, .int ow])), (qcv, .inl (cyI, 96, .inl ov)), (qce, .inl (cyI, 4, .inl oe)), (qcs, .inl (cyI, 4, .inl os)), (qo, .inr (1, [.ref qov, .ref qoe, .ref qos, .int ow])), (qov, .inl (cyI, 96, .inl ov)), (qoe, .inl (cyI, 4, .inl oe)), (qos, .inl (cyI, 4, .inl os))] t.heap ∧ va_D (va_A [(qc, .inr (1, [.ref qcv, .ref qce, .ref qcs, .int cw])), (qcv, .inl (cyI, 96, .inl cv)), (qce, .inl (cyI, 4, .inl ce)), (qcs, .inl (cyI, 4, .inl cs)), (qo, .inr (1, [.ref qov, .ref qoe, .ref qos, .int ow])), (qov, .inl (cyI, 96, .inl ov)), (qoe, .inl (cyI, 4, .inl oe)), (qos, .inl (cyI, 4, .inl os))] sz) [(qc, .inr (1, [.ref qcv, .ref qce, .ref qcs, .int ow])), (qcv, .inl (cyI, 96, .inl ov)), (qce, .inl (cyI, 4, .inl oe)), (qcs, .inl (cyI, 4, .inl os)), (qo, .inr (1, [.ref qov, .ref qoe, .ref qos, .int ow])), (qov, .inl (cyI, 96, .inl ov)), (qoe, .inl (cyI, 4, .inl oe)), (qos, .inl (cyI, 4, .inl os))]) (va_A [(qc, .inr (1, [.ref qcv, .ref qce, .ref qcs, .int cw])), (qcv, .inl (cyI, 96, .inl cv)), (qce, .inl (cyI, 4, .inl ce)), (qcs, .inl (cyI, 4, .inl cs)), (qo, .inr (1, [.ref qov, .ref qoe, .ref qos, .int ow])), (qov, .inl (cyI, 96, .inl ov)), (qoe, .inl (cyI, 4, .inl oe)), (qos, .inl (cyI, 4, .inl os))] sz)) 0 0 (va_A [(qc, .inr (1, [.ref qcv, .ref qce, .ref qcs, .int cw])), (qcv, .inl (cyI, 96, .inl cv)), (qce, .inl (cyI, 4, .inl ce)), (qcs, .inl (cyI, 4, .inl cs)), (qo, .inr (1, [.ref qov, .ref qoe, .ref qos, .int ow])), (qov, .inl (cyI, 96, .inl ov)), (qoe, .inl (cyI, 4, .inl oe)), (qos, .inl (cyI, 4, .inl os))] sz) := by
  refine Met.ofW (cc := cX1_copyFrom) (maxL := 2) (ret := none) (by decide) rfl ?_
  intro p e s m args below meth c s₁ B hml hv
  obtain ⟨rfl, hsz, hP, hK, hD0, he⟩ := hv
  have hx := B.exec
  have hb := B.bytes
  have hr := B.returns
  have hts := atoms_spec (ws := wqX1_copyFrom) B.pre
  have hown : s.vm.findClass RX1 = some m.cls := findClass_of_methodNamed B.named
  have hlocks := B.notSynchronized
  have w_0 := hts (Cond.fieldLink RX1 11 "CraneLimiter$Chart" "values" "[I") (List.mem_cons_of_mem _ b_62)
  have w_1 := hts (Cond.methodLink RX1 21 arraycopyName) (List.mem_cons_of_mem _ b_150)
  have w_2 := hts (Cond.native arraycopyName) (List.mem_cons_of_mem _ b_151)
  have w_3 := hts (Cond.static arraycopyName) (List.mem_cons_of_mem _ b_152)
  have w_4 := hts (Cond.initialized "java/lang/System") (List.mem_cons_of_mem _ b_153)
  have w_5 := hts (Cond.fieldLink RX1 15 "CraneLimiter$Chart" "extensions" "[I") (List.mem_cons_of_mem _ b_63)
  have w_6 := hts (Cond.fieldLink RX1 18 "CraneLimiter$Chart" "samples" "[I") (List.mem_cons_of_mem _ b_64)
  have w_7 := hts (Cond.fieldLink RX1 27 "CraneLimiter$Chart" "onWheels" "Z") (List.mem_cons_of_mem _ b_154)
  have i_X1 : ∀ w ∈ u_ws RX1 TX1 4, w ∈ wqX1_copyFrom := fun w h => List.mem_cons_of_mem _ (bX1 w h)
  subst hsz
  have hD := hD0.self (sz := s.heap.size)
  generalize hAe : va_A [(qc, .inr (1, [.ref qcv, .ref qce, .ref qcs, .int cw])), (qcv, .inl (cyI, 96, .inl cv)), (qce, .inl (cyI, 4, .inl ce)), (qcs, .inl (cyI, 4, .inl cs)), (qo, .inr (1, [.ref qov, .ref qoe, .ref qos, .int ow])), (qov, .inl (cyI, 96, .inl ov)), (qoe, .inl (cyI, 4, .inl oe)), (qos, .inl (cyI, 4, .inl os))] s.heap.size = A at hD he ⊢
  have hA : ∀ q : Nat, s.heap.size ≤ q → A q := fun q h => by rw [← hAe]; exact Or.inr h
  have hS : va_S A s.heap s.heap [] := va_S.rf
  have hP : va_P (dC, dI) vwCl [(qc, .inr (1, [.ref qcv, .ref qce, .ref qcs, .int cw])), (qcv, .inl (cyI, 96, .inl cv)), (qce, .inl (cyI, 4, .inl ce)), (qcs, .inl (cyI, 4, .inl cs)), (qo, .inr (1, [.ref qov, .ref qoe, .ref qos, .int ow])), (qov, .inl (cyI, 96, .inl ov)), (qoe, .inl (cyI, 4, .inl oe)), (qos, .inl (cyI, 4, .inl os))] s.heap := hP
  have hl := lv_entry ([.ref qc, .ref qo] : List Value) (n := 2) (Nat.le_of_ble_eq_true rfl)
  rw [lg_entry_eq]
  generalize (lg_sl ([.ref qc, .ref qo] : List Value) ++ List.replicate (2 - (lg_sl ([.ref qc, .ref qo] : List Value)).length) Slot.unset).toArray = ls at hl ⊢
  have hl : lv_has ls 2 [(0, .ref qc), (1, .ref qo)] := hl
  have hE : True := trivial
  refine lv_aload_n hx hb dX1_copyFrom_0 rfl (lv_at hl 1 rfl) ?_
  refine va_get (D := (dC, dI)) (ci := 1) (v := .ref qov) (C := RX1) (T := TX1) (N := 4) hx hb hts i_X1 hown hK hP 4 rfl rfl 0 (by decide) w_0 (fun _ h9 => h9) rfl dX1_copyFrom_1 ?_
  refine lv_iconst (v := 0) hx hb dX1_copyFrom_4 (by decide) ?_
  refine lv_aload_n hx hb dX1_copyFrom_5 rfl (lv_at hl 0 rfl) ?_
  refine va_get (D := (dC, dI)) (ci := 1) (v := .ref qcv) (C := RX1) (T := TX1) (N := 4) hx hb hts i_X1 hown hK hP 0 rfl rfl 0 (by decide) w_0 (fun _ h9 => h9) rfl dX1_copyFrom_6 ?_
  refine lv_iconst (v := 0) hx hb dX1_copyFrom_9 (by decide) ?_
  refine lv_aload_n hx hb dX1_copyFrom_10 rfl (lv_at hl 0 rfl) ?_
  refine va_get (D := (dC, dI)) (ci := 1) (v := .ref qcv) (C := RX1) (T := TX1) (N := 4) hx hb hts i_X1 hown hK hP 0 rfl rfl 0 (by decide) w_0 (fun _ h9 => h9) rfl dX1_copyFrom_11 ?_
  refine va_alen (v := 96) hx hb hK hP 1 0 rfl rfl rfl dX1_copyFrom_14 ?_
  refine ra_cpy hx hb (hml.trans hl.1.symm) hown w_1 w_2 w_3 w_4 hK hP hD hS 5 1 0 (n := 96) rfl rfl rfl (by decide) (by decide) (Nat.le_of_ble_eq_true rfl) (Nat.le_of_ble_eq_true rfl) dX1_copyFrom_15 (fun H locs hP hD hS => ?_)
  have hP : va_P (dC, dI) vwCl [(qc, .inr (1, [.ref qcv, .ref qce, .ref qcs, .int cw])), (qcv, .inl (cyI, 96, .inl ov)), (qce, .inl (cyI, 4, .inl ce)), (qcs, .inl (cyI, 4, .inl cs)), (qo, .inr (1, [.ref qov, .ref qoe, .ref qos, .int ow])), (qov, .inl (cyI, 96, .inl ov)), (qoe, .inl (cyI, 4, .inl oe)), (qos, .inl (cyI, 4, .inl os))] H := hP
  have hD : va_D A [(qc, .inr (1, [.ref qcv, .ref qce, .ref qcs, .int cw])), (qcv, .inl (cyI, 96, .inl ov)), (qce, .inl (cyI, 4, .inl ce)), (qcs, .inl (cyI, 4, .inl cs)), (qo, .inr (1, [.ref qov, .ref qoe, .ref qos, .int ow])), (qov, .inl (cyI, 96, .inl ov)), (qoe, .inl (cyI, 4, .inl oe)), (qos, .inl (cyI, 4, .inl os))] := hD
  refine lv_aload_n hx hb dX1_copyFrom_18 rfl (lv_at hl 1 rfl) ?_
  refine va_get (D := (dC, dI)) (ci := 1) (v := .ref qoe) (C := RX1) (T := TX1) (N := 4) hx hb hts i_X1 hown hK hP 4 rfl rfl 1 (by decide) w_5 (fun _ h9 => h9) rfl dX1_copyFrom_19 ?_
  refine lv_iconst (v := 0) hx hb dX1_copyFrom_22 (by decide) ?_
  refine lv_aload_n hx hb dX1_copyFrom_23 rfl (lv_at hl 0 rfl) ?_
  refine va_get (D := (dC, dI)) (ci := 1) (v := .ref qce) (C := RX1) (T := TX1) (N := 4) hx hb hts i_X1 hown hK hP 0 rfl rfl 1 (by decide) w_5 (fun _ h9 => h9) rfl dX1_copyFrom_24 ?_
  refine lv_iconst (v := 0) hx hb dX1_copyFrom_27 (by decide) ?_
  refine lv_aload_n hx hb dX1_copyFrom_28 rfl (lv_at hl 0 rfl) ?_
  refine va_get (D := (dC, dI)) (ci := 1) (v := .ref qce) (C := RX1) (T := TX1) (N := 4) hx hb hts i_X1 hown hK hP 0 rfl rfl 1 (by decide) w_5 (fun _ h9 => h9) rfl dX1_copyFrom_29 ?_
  refine va_alen (v := 4) hx hb hK hP 2 0 rfl rfl rfl dX1_copyFrom_32 ?_
  refine ra_cpy hx hb (hml.trans hl.1.symm) hown w_1 w_2 w_3 w_4 hK hP hD hS 6 2 0 (n := 4) rfl rfl rfl (by decide) (by decide) (Nat.le_of_ble_eq_true rfl) (Nat.le_of_ble_eq_true rfl) dX1_copyFrom_33 (fun H locs hP hD hS => ?_)
  have hP : va_P (dC, dI) vwCl [(qc, .inr (1, [.ref qcv, .ref qce, .ref qcs, .int cw])), (qcv, .inl (cyI, 96, .inl ov)), (qce, .inl (cyI, 4, .inl oe)), (qcs, .inl (cyI, 4, .inl cs)), (qo, .inr (1, [.ref qov, .ref qoe, .ref qos, .int ow])), (qov, .inl (cyI, 96, .inl ov)), (qoe, .inl (cyI, 4, .inl oe)), (qos, .inl (cyI, 4, .inl os))] H := hP
  have hD : va_D A [(qc, .inr (1, [.ref qcv, .ref qce, .ref qcs, .int cw])), (qcv, .inl (cyI, 96, .inl ov)), (qce, .inl (cyI, 4, .inl oe)), (qcs, .inl (cyI, 4, .inl cs)), (qo, .inr (1, [.ref qov, .ref qoe, .ref qos, .int ow])), (qov, .inl (cyI, 96, .inl ov)), (qoe, .inl (cyI, 4, .inl oe)), (qos, .inl (cyI, 4, .inl os))] := hD
  refine lv_aload_n hx hb dX1_copyFrom_36 rfl (lv_at hl 1 rfl) ?_
  refine va_get (D := (dC, dI)) (ci := 1) (v := .ref qos) (C := RX1) (T := TX1) (N := 4) hx hb hts i_X1 hown hK hP 4 rfl rfl 2 (by decide) w_6 (fun _ h9 => h9) rfl dX1_copyFrom_37 ?_
  refine lv_iconst (v := 0) hx hb dX1_copyFrom_40 (by decide) ?_
  refine lv_aload_n hx hb dX1_copyFrom_41 rfl (lv_at hl 0 rfl) ?_
  refine va_get (D := (dC, dI)) (ci := 1) (v := .ref qcs) (C := RX1) (T := TX1) (N := 4) hx hb hts i_X1 hown hK hP 0 rfl rfl 2 (by decide) w_6 (fun _ h9 => h9) rfl dX1_copyFrom_42 ?_
  refine lv_iconst (v := 0) hx hb dX1_copyFrom_45 (by decide) ?_
  refine lv_aload_n hx hb dX1_copyFrom_46 rfl (lv_at hl 0 rfl) ?_
  refine va_get (D := (dC, dI)) (ci := 1) (v := .ref qcs) (C := RX1) (T := TX1) (N := 4) hx hb hts i_X1 hown hK hP 0 rfl rfl 2 (by decide) w_6 (fun _ h9 => h9) rfl dX1_copyFrom_47 ?_
  refine va_alen (v := 4) hx hb hK hP 3 0 rfl rfl rfl dX1_copyFrom_50 ?_
  refine ra_cpy hx hb (hml.trans hl.1.symm) hown w_1 w_2 w_3 w_4 hK hP hD hS 7 3 0 (n := 4) rfl rfl rfl (by decide) (by decide) (Nat.le_of_ble_eq_true rfl) (Nat.le_of_ble_eq_true rfl) dX1_copyFrom_51 (fun H locs hP hD hS => ?_)
  have hP : va_P (dC, dI) vwCl [(qc, .inr (1, [.ref qcv, .ref qce, .ref qcs, .int cw])), (qcv, .inl (cyI, 96, .inl ov)), (qce, .inl (cyI, 4, .inl oe)), (qcs, .inl (cyI, 4, .inl os)), (qo, .inr (1, [.ref qov, .ref qoe, .ref qos, .int ow])), (qov, .inl (cyI, 96, .inl ov)), (qoe, .inl (cyI, 4, .inl oe)), (qos, .inl (cyI, 4, .inl os))] H := hP
  have hD : va_D A [(qc, .inr (1, [.ref qcv, .ref qce, .ref qcs, .int cw])), (qcv, .inl (cyI, 96, .inl ov)), (qce, .inl (cyI, 4, .inl oe)), (qcs, .inl (cyI, 4, .inl os)), (qo, .inr (1, [.ref qov, .ref qoe, .ref qos, .int ow])), (qov, .inl (cyI, 96, .inl ov)), (qoe, .inl (cyI, 4, .inl oe)), (qos, .inl (cyI, 4, .inl os))] := hD
  refine lv_aload_n hx hb dX1_copyFrom_54 rfl (lv_at hl 0 rfl) ?_
  refine lv_aload_n hx hb dX1_copyFrom_55 rfl (lv_at hl 1 rfl) ?_
  refine va_get (D := (dC, dI)) (ci := 1) (v := .int ow) (C := RX1) (T := TX1) (N := 4) hx hb hts i_X1 hown hK hP 4 rfl rfl 3 (by decide) w_7 (fun _ h9 => h9) rfl dX1_copyFrom_56 ?_
  refine va_put (D := (dC, dI)) (ci := 1) (v := .int ow) (ty := .boolean) (C := RX1) (T := TX1) (N := 4) hx hb hts i_X1 tyX1 tyX1_ok nmX1 hown hK hP hD hS 0 rfl rfl 3 (by decide) w_7 (fun _ h9 => h9) rfl (by decide +kernel) (by rcases how with h9 | h9 <;> rw [h9] <;> rfl) (by rcases how with h9 | h9 <;> rw [h9] <;> rfl) (Nat.le_of_ble_eq_true rfl) dX1_copyFrom_59 (fun H locs hP hD hS => ?_)
  have hP : va_P (dC, dI) vwCl [(qc, .inr (1, [.ref qcv, .ref qce, .ref qcs, .int ow])), (qcv, .inl (cyI, 96, .inl ov)), (qce, .inl (cyI, 4, .inl oe)), (qcs, .inl (cyI, 4, .inl os)), (qo, .inr (1, [.ref qov, .ref qoe, .ref qos, .int ow])), (qov, .inl (cyI, 96, .inl ov)), (qoe, .inl (cyI, 4, .inl oe)), (qos, .inl (cyI, 4, .inl os))] H := hP
  have hD : va_D A [(qc, .inr (1, [.ref qcv, .ref qce, .ref qcs, .int ow])), (qcv, .inl (cyI, 96, .inl ov)), (qce, .inl (cyI, 4, .inl oe)), (qcs, .inl (cyI, 4, .inl os)), (qo, .inr (1, [.ref qov, .ref qoe, .ref qos, .int ow])), (qov, .inl (cyI, 96, .inl ov)), (qoe, .inl (cyI, 4, .inl oe)), (qos, .inl (cyI, 4, .inl os))] := hD
  exact W.vret hx hb hr (fun t h9 hW => ⟨⟨(() : Unit), rfl, trivial, by rw [h9]; exact hP, hD⟩, hS.F h9⟩) hS.2.2 dX1_copyFrom_62
set_option maxHeartbeats 1000000 in
set_option maxRecDepth 100000 in
theorem c_X3_copyFrom (l : Launch) (dC : Nat → ClassId) (dI : Nat → Nat → Nat) (cyI : ClassId) (sz : Nat) (qg : Nat) (qgt : Nat) (qgk : Nat) (qgv : Nat) (go : Int32) (gc : Int32) (gt : Nat → Int32) (gk : Nat → Int32) (gv : Nat → Int32) (qo : Nat) (qot : Nat) (qok : Nat) (qov : Nat) (oo : Int32) (oc : Int32) (ot : Nat → Int32) (ok : Nat → Int32) (ov : Nat → Int32) : Met l yX3_copyFrom wqX3_copyFrom ({ frames := 1, cells := 0, slots := 0, locals := 18 } : Room) (va_Pc [.ref qg, .ref qo] (pC (dC, dI) [(qg, .inr (3, [.ref qgt, .ref qgk, .ref qgv, .int go, .int gc])), (qgt, .inl (cyI, 30, .inl gt)), (qgk, .inl (cyI, 30, .inl gk)), (qgv, .inl (cyI, 30, .inl gv)), (qo, .inr (3, [.ref qot, .ref qok, .ref qov, .int oo, .int oc])), (qot, .inl (cyI, 30, .inl ot)), (qok, .inl (cyI, 30, .inl ok)), (qov, .inl (cyI, 30, .inl ov))] [(cyI, .int)] eX sz)) (va_Qv (fun u : Unit => True) (fun (u : Unit) t => va_P (dC, dI) vwCl [(qg, .inr (3, [.ref qgt, .ref qgk, .ref qgv, .int oo, .int oc])), (qgt, .inl (cyI, 30, .inl ot)), (qgk, .inl (cyI, 30, .inl ok)), (qgv, .inl (cyI, 30, .inl ov)), (qo, .inr (3, [.ref qot, .ref qok, .ref qov, .int oo, .int oc])), (qot, .inl (cyI, 30, .inl ot)), (qok, .inl (cyI, 30, .inl ok)), (qov, .inl (cyI, 30, .inl ov))] t.heap ∧ va_D (va_A [(qg, .inr (3, [.ref qgt, .ref qgk, .ref qgv, .int go, .int gc])), (qgt, .inl (cyI, 30, .inl gt)), (qgk, .inl (cyI, 30, .inl gk)), (qgv, .inl (cyI, 30, .inl gv)), (qo, .inr (3, [.ref qot, .ref qok, .ref qov, .int oo, .int oc])), (qot, .inl (cyI, 30, .inl ot)), (qok, .inl (cyI, 30, .inl ok)), (qov, .inl (cyI, 30, .inl ov))] sz) [(qg, .inr (3, [.ref qgt, .ref qgk, .ref qgv, .int oo, .int oc])), (qgt, .inl (cyI, 30, .inl ot)), (qgk, .inl (cyI, 30, .inl ok)), (qgv, .inl (cyI, 30, .inl ov)), (qo, .inr (3, [.ref qot, .ref qok, .ref qov, .int oo, .int oc])), (qot, .inl (cyI, 30, .inl ot)), (qok, .inl (cyI, 30, .inl ok)), (qov, .inl (cyI, 30, .inl ov))]) (va_A [(qg, .inr (3, [.ref qgt, .ref qgk, .ref qgv, .int go, .int gc])), (qgt, .inl (cyI, 30, .inl gt)), (qgk, .inl (cyI, 30, .inl gk)), (qgv, .inl (cyI, 30, .inl gv)), (qo, .inr (3, [.ref qot, .ref qok, .ref qov, .int oo, .int oc])), (qot, .inl (cyI, 30, .inl ot)), (qok, .inl (cyI, 30, .inl ok)), (qov, .inl (cyI, 30, .inl ov))] sz)) 0 0 (va_A [(qg, .inr (3, [.ref qgt, .ref qgk, .ref qgv, .int go, .int gc])), (qgt, .inl (cyI, 30, .inl gt)), (qgk, .inl (cyI, 30, .inl gk)), (qgv, .inl (cyI, 30, .inl gv)), (qo, .inr (3, [.ref qot, .ref qok, .ref qov, .int oo, .int oc])), (qot, .inl (cyI, 30, .inl ot)), (qok, .inl (cyI, 30, .inl ok)), (qov, .inl (cyI, 30, .inl ov))] sz) := by
  refine Met.ofW (cc := cX3_copyFrom) (maxL := 2) (ret := none) (by decide) rfl ?_
  intro p e s m args below meth c s₁ B hml hv
  obtain ⟨rfl, hsz, hP, hK, hD0, he⟩ := hv
  have hx := B.exec
  have hb := B.bytes
  have hr := B.returns
  have hts := atoms_spec (ws := wqX3_copyFrom) B.pre
  have hown : s.vm.findClass RX3 = some m.cls := findClass_of_methodNamed B.named
  have hlocks := B.notSynchronized
  have w_0 := hts (Cond.fieldLink RX3 9 "CraneLimiter$Log" "times" "[I") (List.mem_cons_of_mem _ b_72)
  have w_1 := hts (Cond.methodLink RX3 19 arraycopyName) (List.mem_cons_of_mem _ b_165)
  have w_2 := hts (Cond.native arraycopyName) (List.mem_cons_of_mem _ b_151)
  have w_3 := hts (Cond.static arraycopyName) (List.mem_cons_of_mem _ b_152)
  have w_4 := hts (Cond.initialized "java/lang/System") (List.mem_cons_of_mem _ b_153)
  have w_5 := hts (Cond.fieldLink RX3 13 "CraneLimiter$Log" "kinds" "[I") (List.mem_cons_of_mem _ b_73)
  have w_6 := hts (Cond.fieldLink RX3 16 "CraneLimiter$Log" "values" "[I") (List.mem_cons_of_mem _ b_74)
  have w_7 := hts (Cond.fieldLink RX3 25 "CraneLimiter$Log" "oldest" "I") (List.mem_cons_of_mem _ b_166)
  have w_8 := hts (Cond.fieldLink RX3 29 "CraneLimiter$Log" "count" "I") (List.mem_cons_of_mem _ b_167)
  have i_X3 : ∀ w ∈ u_ws RX3 TX3 5, w ∈ wqX3_copyFrom := fun w h => List.mem_cons_of_mem _ (bX3 w h)
  subst hsz
  have hD := hD0.self (sz := s.heap.size)
  generalize hAe : va_A [(qg, .inr (3, [.ref qgt, .ref qgk, .ref qgv, .int go, .int gc])), (qgt, .inl (cyI, 30, .inl gt)), (qgk, .inl (cyI, 30, .inl gk)), (qgv, .inl (cyI, 30, .inl gv)), (qo, .inr (3, [.ref qot, .ref qok, .ref qov, .int oo, .int oc])), (qot, .inl (cyI, 30, .inl ot)), (qok, .inl (cyI, 30, .inl ok)), (qov, .inl (cyI, 30, .inl ov))] s.heap.size = A at hD he ⊢
  have hA : ∀ q : Nat, s.heap.size ≤ q → A q := fun q h => by rw [← hAe]; exact Or.inr h
  have hS : va_S A s.heap s.heap [] := va_S.rf
  have hP : va_P (dC, dI) vwCl [(qg, .inr (3, [.ref qgt, .ref qgk, .ref qgv, .int go, .int gc])), (qgt, .inl (cyI, 30, .inl gt)), (qgk, .inl (cyI, 30, .inl gk)), (qgv, .inl (cyI, 30, .inl gv)), (qo, .inr (3, [.ref qot, .ref qok, .ref qov, .int oo, .int oc])), (qot, .inl (cyI, 30, .inl ot)), (qok, .inl (cyI, 30, .inl ok)), (qov, .inl (cyI, 30, .inl ov))] s.heap := hP
  have hl := lv_entry ([.ref qg, .ref qo] : List Value) (n := 2) (Nat.le_of_ble_eq_true rfl)
  rw [lg_entry_eq]
  generalize (lg_sl ([.ref qg, .ref qo] : List Value) ++ List.replicate (2 - (lg_sl ([.ref qg, .ref qo] : List Value)).length) Slot.unset).toArray = ls at hl ⊢
  have hl : lv_has ls 2 [(0, .ref qg), (1, .ref qo)] := hl
  have hE : True := trivial
  refine lv_aload_n hx hb dX3_copyFrom_0 rfl (lv_at hl 1 rfl) ?_
  refine va_get (D := (dC, dI)) (ci := 3) (v := .ref qot) (C := RX3) (T := TX3) (N := 5) hx hb hts i_X3 hown hK hP 4 rfl rfl 0 (by decide) w_0 (fun _ h9 => h9) rfl dX3_copyFrom_1 ?_
  refine lv_iconst (v := 0) hx hb dX3_copyFrom_4 (by decide) ?_
  refine lv_aload_n hx hb dX3_copyFrom_5 rfl (lv_at hl 0 rfl) ?_
  refine va_get (D := (dC, dI)) (ci := 3) (v := .ref qgt) (C := RX3) (T := TX3) (N := 5) hx hb hts i_X3 hown hK hP 0 rfl rfl 0 (by decide) w_0 (fun _ h9 => h9) rfl dX3_copyFrom_6 ?_
  refine lv_iconst (v := 0) hx hb dX3_copyFrom_9 (by decide) ?_
  refine lv_bipush (v := 30) hx hb dX3_copyFrom_10 (by decide) ?_
  refine ra_cpy hx hb (hml.trans hl.1.symm) hown w_1 w_2 w_3 w_4 hK hP hD hS 5 1 0 (n := 30) rfl rfl rfl (by decide) (by decide) (Nat.le_of_ble_eq_true rfl) (Nat.le_of_ble_eq_true rfl) dX3_copyFrom_12 (fun H locs hP hD hS => ?_)
  have hP : va_P (dC, dI) vwCl [(qg, .inr (3, [.ref qgt, .ref qgk, .ref qgv, .int go, .int gc])), (qgt, .inl (cyI, 30, .inl ot)), (qgk, .inl (cyI, 30, .inl gk)), (qgv, .inl (cyI, 30, .inl gv)), (qo, .inr (3, [.ref qot, .ref qok, .ref qov, .int oo, .int oc])), (qot, .inl (cyI, 30, .inl ot)), (qok, .inl (cyI, 30, .inl ok)), (qov, .inl (cyI, 30, .inl ov))] H := hP
  have hD : va_D A [(qg, .inr (3, [.ref qgt, .ref qgk, .ref qgv, .int go, .int gc])), (qgt, .inl (cyI, 30, .inl ot)), (qgk, .inl (cyI, 30, .inl gk)), (qgv, .inl (cyI, 30, .inl gv)), (qo, .inr (3, [.ref qot, .ref qok, .ref qov, .int oo, .int oc])), (qot, .inl (cyI, 30, .inl ot)), (qok, .inl (cyI, 30, .inl ok)), (qov, .inl (cyI, 30, .inl ov))] := hD
  refine lv_aload_n hx hb dX3_copyFrom_15 rfl (lv_at hl 1 rfl) ?_
  refine va_get (D := (dC, dI)) (ci := 3) (v := .ref qok) (C := RX3) (T := TX3) (N := 5) hx hb hts i_X3 hown hK hP 4 rfl rfl 1 (by decide) w_5 (fun _ h9 => h9) rfl dX3_copyFrom_16 ?_
  refine lv_iconst (v := 0) hx hb dX3_copyFrom_19 (by decide) ?_
  refine lv_aload_n hx hb dX3_copyFrom_20 rfl (lv_at hl 0 rfl) ?_
  refine va_get (D := (dC, dI)) (ci := 3) (v := .ref qgk) (C := RX3) (T := TX3) (N := 5) hx hb hts i_X3 hown hK hP 0 rfl rfl 1 (by decide) w_5 (fun _ h9 => h9) rfl dX3_copyFrom_21 ?_
  refine lv_iconst (v := 0) hx hb dX3_copyFrom_24 (by decide) ?_
  refine lv_bipush (v := 30) hx hb dX3_copyFrom_25 (by decide) ?_
  refine ra_cpy hx hb (hml.trans hl.1.symm) hown w_1 w_2 w_3 w_4 hK hP hD hS 6 2 0 (n := 30) rfl rfl rfl (by decide) (by decide) (Nat.le_of_ble_eq_true rfl) (Nat.le_of_ble_eq_true rfl) dX3_copyFrom_27 (fun H locs hP hD hS => ?_)
  have hP : va_P (dC, dI) vwCl [(qg, .inr (3, [.ref qgt, .ref qgk, .ref qgv, .int go, .int gc])), (qgt, .inl (cyI, 30, .inl ot)), (qgk, .inl (cyI, 30, .inl ok)), (qgv, .inl (cyI, 30, .inl gv)), (qo, .inr (3, [.ref qot, .ref qok, .ref qov, .int oo, .int oc])), (qot, .inl (cyI, 30, .inl ot)), (qok, .inl (cyI, 30, .inl ok)), (qov, .inl (cyI, 30, .inl ov))] H := hP
  have hD : va_D A [(qg, .inr (3, [.ref qgt, .ref qgk, .ref qgv, .int go, .int gc])), (qgt, .inl (cyI, 30, .inl ot)), (qgk, .inl (cyI, 30, .inl ok)), (qgv, .inl (cyI, 30, .inl gv)), (qo, .inr (3, [.ref qot, .ref qok, .ref qov, .int oo, .int oc])), (qot, .inl (cyI, 30, .inl ot)), (qok, .inl (cyI, 30, .inl ok)), (qov, .inl (cyI, 30, .inl ov))] := hD
  refine lv_aload_n hx hb dX3_copyFrom_30 rfl (lv_at hl 1 rfl) ?_
  refine va_get (D := (dC, dI)) (ci := 3) (v := .ref qov) (C := RX3) (T := TX3) (N := 5) hx hb hts i_X3 hown hK hP 4 rfl rfl 2 (by decide) w_6 (fun _ h9 => h9) rfl dX3_copyFrom_31 ?_
  refine lv_iconst (v := 0) hx hb dX3_copyFrom_34 (by decide) ?_
  refine lv_aload_n hx hb dX3_copyFrom_35 rfl (lv_at hl 0 rfl) ?_
  refine va_get (D := (dC, dI)) (ci := 3) (v := .ref qgv) (C := RX3) (T := TX3) (N := 5) hx hb hts i_X3 hown hK hP 0 rfl rfl 2 (by decide) w_6 (fun _ h9 => h9) rfl dX3_copyFrom_36 ?_
  refine lv_iconst (v := 0) hx hb dX3_copyFrom_39 (by decide) ?_
  refine lv_bipush (v := 30) hx hb dX3_copyFrom_40 (by decide) ?_
  refine ra_cpy hx hb (hml.trans hl.1.symm) hown w_1 w_2 w_3 w_4 hK hP hD hS 7 3 0 (n := 30) rfl rfl rfl (by decide) (by decide) (Nat.le_of_ble_eq_true rfl) (Nat.le_of_ble_eq_true rfl) dX3_copyFrom_42 (fun H locs hP hD hS => ?_)
  have hP : va_P (dC, dI) vwCl [(qg, .inr (3, [.ref qgt, .ref qgk, .ref qgv, .int go, .int gc])), (qgt, .inl (cyI, 30, .inl ot)), (qgk, .inl (cyI, 30, .inl ok)), (qgv, .inl (cyI, 30, .inl ov)), (qo, .inr (3, [.ref qot, .ref qok, .ref qov, .int oo, .int oc])), (qot, .inl (cyI, 30, .inl ot)), (qok, .inl (cyI, 30, .inl ok)), (qov, .inl (cyI, 30, .inl ov))] H := hP
  have hD : va_D A [(qg, .inr (3, [.ref qgt, .ref qgk, .ref qgv, .int go, .int gc])), (qgt, .inl (cyI, 30, .inl ot)), (qgk, .inl (cyI, 30, .inl ok)), (qgv, .inl (cyI, 30, .inl ov)), (qo, .inr (3, [.ref qot, .ref qok, .ref qov, .int oo, .int oc])), (qot, .inl (cyI, 30, .inl ot)), (qok, .inl (cyI, 30, .inl ok)), (qov, .inl (cyI, 30, .inl ov))] := hD
  refine lv_aload_n hx hb dX3_copyFrom_45 rfl (lv_at hl 0 rfl) ?_
  refine lv_aload_n hx hb dX3_copyFrom_46 rfl (lv_at hl 1 rfl) ?_
  refine va_get (D := (dC, dI)) (ci := 3) (v := .int oo) (C := RX3) (T := TX3) (N := 5) hx hb hts i_X3 hown hK hP 4 rfl rfl 3 (by decide) w_7 (fun _ h9 => h9) rfl dX3_copyFrom_47 ?_
  refine va_put (D := (dC, dI)) (ci := 3) (v := .int oo) (ty := .int) (C := RX3) (T := TX3) (N := 5) hx hb hts i_X3 tyX3 tyX3_ok nmX3 hown hK hP hD hS 0 rfl rfl 3 (by decide) w_7 (fun _ h9 => h9) rfl (by decide +kernel) (rfl) (rfl) (Nat.le_of_ble_eq_true rfl) dX3_copyFrom_50 (fun H locs hP hD hS => ?_)
  have hP : va_P (dC, dI) vwCl [(qg, .inr (3, [.ref qgt, .ref qgk, .ref qgv, .int oo, .int gc])), (qgt, .inl (cyI, 30, .inl ot)), (qgk, .inl (cyI, 30, .inl ok)), (qgv, .inl (cyI, 30, .inl ov)), (qo, .inr (3, [.ref qot, .ref qok, .ref qov, .int oo, .int oc])), (qot, .inl (cyI, 30, .inl ot)), (qok, .inl (cyI, 30, .inl ok)), (qov, .inl (cyI, 30, .inl ov))] H := hP
  have hD : va_D A [(qg, .inr (3, [.ref qgt, .ref qgk, .ref qgv, .int oo, .int gc])), (qgt, .inl (cyI, 30, .inl ot)), (qgk, .inl (cyI, 30, .inl ok)), (qgv, .inl (cyI, 30, .inl ov)), (qo, .inr (3, [.ref qot, .ref qok, .ref qov, .int oo, .int oc])), (qot, .inl (cyI, 30, .inl ot)), (qok, .inl (cyI, 30, .inl ok)), (qov, .inl (cyI, 30, .inl ov))] := hD
  refine lv_aload_n hx hb dX3_copyFrom_53 rfl (lv_at hl 0 rfl) ?_
  refine lv_aload_n hx hb dX3_copyFrom_54 rfl (lv_at hl 1 rfl) ?_
  refine va_get (D := (dC, dI)) (ci := 3) (v := .int oc) (C := RX3) (T := TX3) (N := 5) hx hb hts i_X3 hown hK hP 4 rfl rfl 4 (by decide) w_8 (fun _ h9 => h9) rfl dX3_copyFrom_55 ?_
  refine va_put (D := (dC, dI)) (ci := 3) (v := .int oc) (ty := .int) (C := RX3) (T := TX3) (N := 5) hx hb hts i_X3 tyX3 tyX3_ok nmX3 hown hK hP hD hS 0 rfl rfl 4 (by decide) w_8 (fun _ h9 => h9) rfl (by decide +kernel) (rfl) (rfl) (Nat.le_of_ble_eq_true rfl) dX3_copyFrom_58 (fun H locs hP hD hS => ?_)
  have hP : va_P (dC, dI) vwCl [(qg, .inr (3, [.ref qgt, .ref qgk, .ref qgv, .int oo, .int oc])), (qgt, .inl (cyI, 30, .inl ot)), (qgk, .inl (cyI, 30, .inl ok)), (qgv, .inl (cyI, 30, .inl ov)), (qo, .inr (3, [.ref qot, .ref qok, .ref qov, .int oo, .int oc])), (qot, .inl (cyI, 30, .inl ot)), (qok, .inl (cyI, 30, .inl ok)), (qov, .inl (cyI, 30, .inl ov))] H := hP
  have hD : va_D A [(qg, .inr (3, [.ref qgt, .ref qgk, .ref qgv, .int oo, .int oc])), (qgt, .inl (cyI, 30, .inl ot)), (qgk, .inl (cyI, 30, .inl ok)), (qgv, .inl (cyI, 30, .inl ov)), (qo, .inr (3, [.ref qot, .ref qok, .ref qov, .int oo, .int oc])), (qot, .inl (cyI, 30, .inl ot)), (qok, .inl (cyI, 30, .inl ok)), (qov, .inl (cyI, 30, .inl ov))] := hD
  exact W.vret hx hb hr (fun t h9 hW => ⟨⟨(() : Unit), rfl, trivial, by rw [h9]; exact hP, hD⟩, hS.F h9⟩) hS.2.2 dX3_copyFrom_61
set_option maxHeartbeats 1000000 in
set_option maxRecDepth 100000 in
theorem c_X6_copyFrom (l : Launch) (dC : Nat → ClassId) (dI : Nat → Nat → Nat) (cyI : ClassId) (sz : Nat) (qy : Nat) (qys : Nat) (qyl : Nat) (yg : Int32) (ys : Nat → Int32) (yl : Nat → Int32) (qo : Nat) (qos : Nat) (qol : Nat) (og : Int32) (os : Nat → Int32) (ol : Nat → Int32) : Met l yX6_copyFrom wqX6_copyFrom ({ frames := 1, cells := 0, slots := 0, locals := 18 } : Room) (va_Pc [.ref qy, .ref qo] (pC (dC, dI) [(qy, .inr (6, [.ref qys, .ref qyl, .int yg])), (qys, .inl (cyI, 4, .inl ys)), (qyl, .inl (cyI, 8, .inl yl)), (qo, .inr (6, [.ref qos, .ref qol, .int og])), (qos, .inl (cyI, 4, .inl os)), (qol, .inl (cyI, 8, .inl ol))] [(cyI, .int)] eX sz)) (va_Qv (fun u : Unit => True) (fun (u : Unit) t => va_P (dC, dI) vwCl [(qy, .inr (6, [.ref qys, .ref qyl, .int og])), (qys, .inl (cyI, 4, .inl os)), (qyl, .inl (cyI, 8, .inl ol)), (qo, .inr (6, [.ref qos, .ref qol, .int og])), (qos, .inl (cyI, 4, .inl os)), (qol, .inl (cyI, 8, .inl ol))] t.heap ∧ va_D (va_A [(qy, .inr (6, [.ref qys, .ref qyl, .int yg])), (qys, .inl (cyI, 4, .inl ys)), (qyl, .inl (cyI, 8, .inl yl)), (qo, .inr (6, [.ref qos, .ref qol, .int og])), (qos, .inl (cyI, 4, .inl os)), (qol, .inl (cyI, 8, .inl ol))] sz) [(qy, .inr (6, [.ref qys, .ref qyl, .int og])), (qys, .inl (cyI, 4, .inl os)), (qyl, .inl (cyI, 8, .inl ol)), (qo, .inr (6, [.ref qos, .ref qol, .int og])), (qos, .inl (cyI, 4, .inl os)), (qol, .inl (cyI, 8, .inl ol))]) (va_A [(qy, .inr (6, [.ref qys, .ref qyl, .int yg])), (qys, .inl (cyI, 4, .inl ys)), (qyl, .inl (cyI, 8, .inl yl)), (qo, .inr (6, [.ref qos, .ref qol, .int og])), (qos, .inl (cyI, 4, .inl os)), (qol, .inl (cyI, 8, .inl ol))] sz)) 0 0 (va_A [(qy, .inr (6, [.ref qys, .ref qyl, .int yg])), (qys, .inl (cyI, 4, .inl ys)), (qyl, .inl (cyI, 8, .inl yl)), (qo, .inr (6, [.ref qos, .ref qol, .int og])), (qos, .inl (cyI, 4, .inl os)), (qol, .inl (cyI, 8, .inl ol))] sz) := by
  refine Met.ofW (cc := cX6_copyFrom) (maxL := 2) (ret := none) (by decide) rfl ?_
  intro p e s m args below meth c s₁ B hml hv
  obtain ⟨rfl, hsz, hP, hK, hD0, he⟩ := hv
  have hx := B.exec
  have hb := B.bytes
  have hr := B.returns
  have hts := atoms_spec (ws := wqX6_copyFrom) B.pre
  have hown : s.vm.findClass RX6 = some m.cls := findClass_of_methodNamed B.named
  have hlocks := B.notSynchronized
  have w_0 := hts (Cond.fieldLink RX6 11 "CraneLimiter$Tally" "stateTimes" "[I") (List.mem_cons_of_mem _ b_78)
  have w_1 := hts (Cond.methodLink RX6 22 arraycopyName) (List.mem_cons_of_mem _ b_172)
  have w_2 := hts (Cond.native arraycopyName) (List.mem_cons_of_mem _ b_151)
  have w_3 := hts (Cond.static arraycopyName) (List.mem_cons_of_mem _ b_152)
  have w_4 := hts (Cond.initialized "java/lang/System") (List.mem_cons_of_mem _ b_153)
  have w_5 := hts (Cond.fieldLink RX6 15 "CraneLimiter$Tally" "liftCounts" "[I") (List.mem_cons_of_mem _ b_79)
  have w_6 := hts (Cond.fieldLink RX6 18 "CraneLimiter$Tally" "greatest" "I") (List.mem_cons_of_mem _ b_80)
  have i_X6 : ∀ w ∈ u_ws RX6 TX6 3, w ∈ wqX6_copyFrom := fun w h => List.mem_cons_of_mem _ (bX6 w h)
  subst hsz
  have hD := hD0.self (sz := s.heap.size)
  generalize hAe : va_A [(qy, .inr (6, [.ref qys, .ref qyl, .int yg])), (qys, .inl (cyI, 4, .inl ys)), (qyl, .inl (cyI, 8, .inl yl)), (qo, .inr (6, [.ref qos, .ref qol, .int og])), (qos, .inl (cyI, 4, .inl os)), (qol, .inl (cyI, 8, .inl ol))] s.heap.size = A at hD he ⊢
  have hA : ∀ q : Nat, s.heap.size ≤ q → A q := fun q h => by rw [← hAe]; exact Or.inr h
  have hS : va_S A s.heap s.heap [] := va_S.rf
  have hP : va_P (dC, dI) vwCl [(qy, .inr (6, [.ref qys, .ref qyl, .int yg])), (qys, .inl (cyI, 4, .inl ys)), (qyl, .inl (cyI, 8, .inl yl)), (qo, .inr (6, [.ref qos, .ref qol, .int og])), (qos, .inl (cyI, 4, .inl os)), (qol, .inl (cyI, 8, .inl ol))] s.heap := hP
  have hl := lv_entry ([.ref qy, .ref qo] : List Value) (n := 2) (Nat.le_of_ble_eq_true rfl)
  rw [lg_entry_eq]
  generalize (lg_sl ([.ref qy, .ref qo] : List Value) ++ List.replicate (2 - (lg_sl ([.ref qy, .ref qo] : List Value)).length) Slot.unset).toArray = ls at hl ⊢
  have hl : lv_has ls 2 [(0, .ref qy), (1, .ref qo)] := hl
  have hE : True := trivial
  refine lv_aload_n hx hb dX6_copyFrom_0 rfl (lv_at hl 1 rfl) ?_
  refine va_get (D := (dC, dI)) (ci := 6) (v := .ref qos) (C := RX6) (T := TX6) (N := 3) hx hb hts i_X6 hown hK hP 3 rfl rfl 0 (by decide) w_0 (fun _ h9 => h9) rfl dX6_copyFrom_1 ?_
  refine lv_iconst (v := 0) hx hb dX6_copyFrom_4 (by decide) ?_
  refine lv_aload_n hx hb dX6_copyFrom_5 rfl (lv_at hl 0 rfl) ?_
  refine va_get (D := (dC, dI)) (ci := 6) (v := .ref qys) (C := RX6) (T := TX6) (N := 3) hx hb hts i_X6 hown hK hP 0 rfl rfl 0 (by decide) w_0 (fun _ h9 => h9) rfl dX6_copyFrom_6 ?_
  refine lv_iconst (v := 0) hx hb dX6_copyFrom_9 (by decide) ?_
  refine lv_iconst (v := 4) hx hb dX6_copyFrom_10 (by decide) ?_
  refine ra_cpy hx hb (hml.trans hl.1.symm) hown w_1 w_2 w_3 w_4 hK hP hD hS 4 1 0 (n := 4) rfl rfl rfl (by decide) (by decide) (Nat.le_of_ble_eq_true rfl) (Nat.le_of_ble_eq_true rfl) dX6_copyFrom_11 (fun H locs hP hD hS => ?_)
  have hP : va_P (dC, dI) vwCl [(qy, .inr (6, [.ref qys, .ref qyl, .int yg])), (qys, .inl (cyI, 4, .inl os)), (qyl, .inl (cyI, 8, .inl yl)), (qo, .inr (6, [.ref qos, .ref qol, .int og])), (qos, .inl (cyI, 4, .inl os)), (qol, .inl (cyI, 8, .inl ol))] H := hP
  have hD : va_D A [(qy, .inr (6, [.ref qys, .ref qyl, .int yg])), (qys, .inl (cyI, 4, .inl os)), (qyl, .inl (cyI, 8, .inl yl)), (qo, .inr (6, [.ref qos, .ref qol, .int og])), (qos, .inl (cyI, 4, .inl os)), (qol, .inl (cyI, 8, .inl ol))] := hD
  refine lv_aload_n hx hb dX6_copyFrom_14 rfl (lv_at hl 1 rfl) ?_
  refine va_get (D := (dC, dI)) (ci := 6) (v := .ref qol) (C := RX6) (T := TX6) (N := 3) hx hb hts i_X6 hown hK hP 3 rfl rfl 1 (by decide) w_5 (fun _ h9 => h9) rfl dX6_copyFrom_15 ?_
  refine lv_iconst (v := 0) hx hb dX6_copyFrom_18 (by decide) ?_
  refine lv_aload_n hx hb dX6_copyFrom_19 rfl (lv_at hl 0 rfl) ?_
  refine va_get (D := (dC, dI)) (ci := 6) (v := .ref qyl) (C := RX6) (T := TX6) (N := 3) hx hb hts i_X6 hown hK hP 0 rfl rfl 1 (by decide) w_5 (fun _ h9 => h9) rfl dX6_copyFrom_20 ?_
  refine lv_iconst (v := 0) hx hb dX6_copyFrom_23 (by decide) ?_
  refine lv_bipush (v := 8) hx hb dX6_copyFrom_24 (by decide) ?_
  refine ra_cpy hx hb (hml.trans hl.1.symm) hown w_1 w_2 w_3 w_4 hK hP hD hS 5 2 0 (n := 8) rfl rfl rfl (by decide) (by decide) (Nat.le_of_ble_eq_true rfl) (Nat.le_of_ble_eq_true rfl) dX6_copyFrom_26 (fun H locs hP hD hS => ?_)
  have hP : va_P (dC, dI) vwCl [(qy, .inr (6, [.ref qys, .ref qyl, .int yg])), (qys, .inl (cyI, 4, .inl os)), (qyl, .inl (cyI, 8, .inl ol)), (qo, .inr (6, [.ref qos, .ref qol, .int og])), (qos, .inl (cyI, 4, .inl os)), (qol, .inl (cyI, 8, .inl ol))] H := hP
  have hD : va_D A [(qy, .inr (6, [.ref qys, .ref qyl, .int yg])), (qys, .inl (cyI, 4, .inl os)), (qyl, .inl (cyI, 8, .inl ol)), (qo, .inr (6, [.ref qos, .ref qol, .int og])), (qos, .inl (cyI, 4, .inl os)), (qol, .inl (cyI, 8, .inl ol))] := hD
  refine lv_aload_n hx hb dX6_copyFrom_29 rfl (lv_at hl 0 rfl) ?_
  refine lv_aload_n hx hb dX6_copyFrom_30 rfl (lv_at hl 1 rfl) ?_
  refine va_get (D := (dC, dI)) (ci := 6) (v := .int og) (C := RX6) (T := TX6) (N := 3) hx hb hts i_X6 hown hK hP 3 rfl rfl 2 (by decide) w_6 (fun _ h9 => h9) rfl dX6_copyFrom_31 ?_
  refine va_put (D := (dC, dI)) (ci := 6) (v := .int og) (ty := .int) (C := RX6) (T := TX6) (N := 3) hx hb hts i_X6 tyX6 tyX6_ok nmX6 hown hK hP hD hS 0 rfl rfl 2 (by decide) w_6 (fun _ h9 => h9) rfl (by decide +kernel) (rfl) (rfl) (Nat.le_of_ble_eq_true rfl) dX6_copyFrom_34 (fun H locs hP hD hS => ?_)
  have hP : va_P (dC, dI) vwCl [(qy, .inr (6, [.ref qys, .ref qyl, .int og])), (qys, .inl (cyI, 4, .inl os)), (qyl, .inl (cyI, 8, .inl ol)), (qo, .inr (6, [.ref qos, .ref qol, .int og])), (qos, .inl (cyI, 4, .inl os)), (qol, .inl (cyI, 8, .inl ol))] H := hP
  have hD : va_D A [(qy, .inr (6, [.ref qys, .ref qyl, .int og])), (qys, .inl (cyI, 4, .inl os)), (qyl, .inl (cyI, 8, .inl ol)), (qo, .inr (6, [.ref qos, .ref qol, .int og])), (qos, .inl (cyI, 4, .inl os)), (qol, .inl (cyI, 8, .inl ol))] := hD
  exact W.vret hx hb hr (fun t h9 hW => ⟨⟨(() : Unit), rfl, trivial, by rw [h9]; exact hP, hD⟩, hS.F h9⟩) hS.2.2 dX6_copyFrom_37
set_option maxHeartbeats 1000000 in
set_option maxRecDepth 100000 in
theorem c_X7_copyFrom (l : Launch) (dC : Nat → ClassId) (dI : Nat → Nat → Nat) (cyI : ClassId) (sz : Nat) (qz : Nat) (qzv : Nat) (zc : Int32) (zf : Nat → Int32) (qo : Nat) (qov : Nat) (oc : Int32) (of : Nat → Int32) : Met l yX7_copyFrom wqX7_copyFrom ({ frames := 1, cells := 0, slots := 0, locals := 18 } : Room) (va_Pc [.ref qz, .ref qo] (pC (dC, dI) [(qz, .inr (7, [.ref qzv, .int zc])), (qzv, .inl (cyI, 24, .inl zf)), (qo, .inr (7, [.ref qov, .int oc])), (qov, .inl (cyI, 24, .inl of))] [(cyI, .int)] eX sz)) (va_Qv (fun u : Unit => True) (fun (u : Unit) t => va_P (dC, dI) vwCl [(qz, .inr (7, [.ref qzv, .int oc])), (qzv, .inl (cyI, 24, .inl of)), (qo, .inr (7, [.ref qov, .int oc])), (qov, .inl (cyI, 24, .inl of))] t.heap ∧ va_D (va_A [(qz, .inr (7, [.ref qzv, .int zc])), (qzv, .inl (cyI, 24, .inl zf)), (qo, .inr (7, [.ref qov, .int oc])), (qov, .inl (cyI, 24, .inl of))] sz) [(qz, .inr (7, [.ref qzv, .int oc])), (qzv, .inl (cyI, 24, .inl of)), (qo, .inr (7, [.ref qov, .int oc])), (qov, .inl (cyI, 24, .inl of))]) (va_A [(qz, .inr (7, [.ref qzv, .int zc])), (qzv, .inl (cyI, 24, .inl zf)), (qo, .inr (7, [.ref qov, .int oc])), (qov, .inl (cyI, 24, .inl of))] sz)) 0 0 (va_A [(qz, .inr (7, [.ref qzv, .int zc])), (qzv, .inl (cyI, 24, .inl zf)), (qo, .inr (7, [.ref qov, .int oc])), (qov, .inl (cyI, 24, .inl of))] sz) := by
  refine Met.ofW (cc := cX7_copyFrom) (maxL := 2) (ret := none) (by decide) rfl ?_
  intro p e s m args below meth c s₁ B hml hv
  obtain ⟨rfl, hsz, hP, hK, hD0, he⟩ := hv
  have hx := B.exec
  have hb := B.bytes
  have hr := B.returns
  have hts := atoms_spec (ws := wqX7_copyFrom) B.pre
  have hown : s.vm.findClass RX7 = some m.cls := findClass_of_methodNamed B.named
  have hlocks := B.notSynchronized
  have w_0 := hts (Cond.fieldLink RX7 9 "CraneLimiter$Zones" "values" "[I") (List.mem_cons_of_mem _ b_68)
  have w_1 := hts (Cond.methodLink RX7 13 arraycopyName) (List.mem_cons_of_mem _ b_159)
  have w_2 := hts (Cond.native arraycopyName) (List.mem_cons_of_mem _ b_151)
  have w_3 := hts (Cond.static arraycopyName) (List.mem_cons_of_mem _ b_152)
  have w_4 := hts (Cond.initialized "java/lang/System") (List.mem_cons_of_mem _ b_153)
  have w_5 := hts (Cond.fieldLink RX7 19 "CraneLimiter$Zones" "count" "I") (List.mem_cons_of_mem _ b_160)
  have i_X7 : ∀ w ∈ u_ws RX7 TX7 2, w ∈ wqX7_copyFrom := fun w h => List.mem_cons_of_mem _ (bX7 w h)
  subst hsz
  have hD := hD0.self (sz := s.heap.size)
  generalize hAe : va_A [(qz, .inr (7, [.ref qzv, .int zc])), (qzv, .inl (cyI, 24, .inl zf)), (qo, .inr (7, [.ref qov, .int oc])), (qov, .inl (cyI, 24, .inl of))] s.heap.size = A at hD he ⊢
  have hA : ∀ q : Nat, s.heap.size ≤ q → A q := fun q h => by rw [← hAe]; exact Or.inr h
  have hS : va_S A s.heap s.heap [] := va_S.rf
  have hP : va_P (dC, dI) vwCl [(qz, .inr (7, [.ref qzv, .int zc])), (qzv, .inl (cyI, 24, .inl zf)), (qo, .inr (7, [.ref qov, .int oc])), (qov, .inl (cyI, 24, .inl of))] s.heap := hP
  have hl := lv_entry ([.ref qz, .ref qo] : List Value) (n := 2) (Nat.le_of_ble_eq_true rfl)
  rw [lg_entry_eq]
  generalize (lg_sl ([.ref qz, .ref qo] : List Value) ++ List.replicate (2 - (lg_sl ([.ref qz, .ref qo] : List Value)).length) Slot.unset).toArray = ls at hl ⊢
  have hl : lv_has ls 2 [(0, .ref qz), (1, .ref qo)] := hl
  have hE : True := trivial
  refine lv_aload_n hx hb dX7_copyFrom_0 rfl (lv_at hl 1 rfl) ?_
  refine va_get (D := (dC, dI)) (ci := 7) (v := .ref qov) (C := RX7) (T := TX7) (N := 2) hx hb hts i_X7 hown hK hP 2 rfl rfl 0 (by decide) w_0 (fun _ h9 => h9) rfl dX7_copyFrom_1 ?_
  refine lv_iconst (v := 0) hx hb dX7_copyFrom_4 (by decide) ?_
  refine lv_aload_n hx hb dX7_copyFrom_5 rfl (lv_at hl 0 rfl) ?_
  refine va_get (D := (dC, dI)) (ci := 7) (v := .ref qzv) (C := RX7) (T := TX7) (N := 2) hx hb hts i_X7 hown hK hP 0 rfl rfl 0 (by decide) w_0 (fun _ h9 => h9) rfl dX7_copyFrom_6 ?_
  refine lv_iconst (v := 0) hx hb dX7_copyFrom_9 (by decide) ?_
  refine lv_aload_n hx hb dX7_copyFrom_10 rfl (lv_at hl 0 rfl) ?_
  refine va_get (D := (dC, dI)) (ci := 7) (v := .ref qzv) (C := RX7) (T := TX7) (N := 2) hx hb hts i_X7 hown hK hP 0 rfl rfl 0 (by decide) w_0 (fun _ h9 => h9) rfl dX7_copyFrom_11 ?_
  refine va_alen (v := 24) hx hb hK hP 1 0 rfl rfl rfl dX7_copyFrom_14 ?_
  refine ra_cpy hx hb (hml.trans hl.1.symm) hown w_1 w_2 w_3 w_4 hK hP hD hS 3 1 0 (n := 24) rfl rfl rfl (by decide) (by decide) (Nat.le_of_ble_eq_true rfl) (Nat.le_of_ble_eq_true rfl) dX7_copyFrom_15 (fun H locs hP hD hS => ?_)
  have hP : va_P (dC, dI) vwCl [(qz, .inr (7, [.ref qzv, .int zc])), (qzv, .inl (cyI, 24, .inl of)), (qo, .inr (7, [.ref qov, .int oc])), (qov, .inl (cyI, 24, .inl of))] H := hP
  have hD : va_D A [(qz, .inr (7, [.ref qzv, .int zc])), (qzv, .inl (cyI, 24, .inl of)), (qo, .inr (7, [.ref qov, .int oc])), (qov, .inl (cyI, 24, .inl of))] := hD
  refine lv_aload_n hx hb dX7_copyFrom_18 rfl (lv_at hl 0 rfl) ?_
  refine lv_aload_n hx hb dX7_copyFrom_19 rfl (lv_at hl 1 rfl) ?_
  refine va_get (D := (dC, dI)) (ci := 7) (v := .int oc) (C := RX7) (T := TX7) (N := 2) hx hb hts i_X7 hown hK hP 2 rfl rfl 1 (by decide) w_5 (fun _ h9 => h9) rfl dX7_copyFrom_20 ?_
  refine va_put (D := (dC, dI)) (ci := 7) (v := .int oc) (ty := .int) (C := RX7) (T := TX7) (N := 2) hx hb hts i_X7 tyX7 tyX7_ok nmX7 hown hK hP hD hS 0 rfl rfl 1 (by decide) w_5 (fun _ h9 => h9) rfl (by decide +kernel) (rfl) (rfl) (Nat.le_of_ble_eq_true rfl) dX7_copyFrom_23 (fun H locs hP hD hS => ?_)
  have hP : va_P (dC, dI) vwCl [(qz, .inr (7, [.ref qzv, .int oc])), (qzv, .inl (cyI, 24, .inl of)), (qo, .inr (7, [.ref qov, .int oc])), (qov, .inl (cyI, 24, .inl of))] H := hP
  have hD : va_D A [(qz, .inr (7, [.ref qzv, .int oc])), (qzv, .inl (cyI, 24, .inl of)), (qo, .inr (7, [.ref qov, .int oc])), (qov, .inl (cyI, 24, .inl of))] := hD
  exact W.vret hx hb hr (fun t h9 hW => ⟨⟨(() : Unit), rfl, trivial, by rw [h9]; exact hP, hD⟩, hS.F h9⟩) hS.2.2 dX7_copyFrom_26
def x_X7_add (zc : Int32) (zf : Nat → Int32) (fr : Int32) (to : Int32) (ra : Int32) (he_ : Int32) : Int32 × (Nat → Int32) :=
  if (zc.toNatClampNeg * 4) < 0 then ((zc, zf)) else (if ((zc.toNatClampNeg * 4) + 4) ≤ 24 then (spLet (upd zf (zc.toNatClampNeg * 4) fr) (fun f_5 => spLet (upd f_5 ((zc.toNatClampNeg * 4) + 1) to) (fun f_7 => spLet (upd f_7 ((zc.toNatClampNeg * 4) + 2) ra) (fun f_9 => spLet (upd f_9 ((zc.toNatClampNeg * 4) + 3) he_) (fun f_11 => ((nI (zc.toNatClampNeg + 1)), f_11)))))) else ((zc, zf)))
set_option maxHeartbeats 1000000 in
set_option maxRecDepth 100000 in
theorem c_X7_add (l : Launch) (dC : Nat → ClassId) (dI : Nat → Nat → Nat) (cyI : ClassId) (sz : Nat) (qz : Nat) (qzv : Nat) (zc : Int32) (zf : Nat → Int32) (fr : Int32) (to : Int32) (ra : Int32) (he_ : Int32) (hzc : 0 ≤ zc.toInt ∧ zc.toInt ≤ 6) : Met l yX7_add wqX7_add ({ frames := 0, cells := 0, slots := 0, locals := 0 } : Room) (va_Pc [.ref qz, .int fr, .int to, .int ra, .int he_] (pC (dC, dI) [(qz, .inr (7, [.ref qzv, .int zc])), (qzv, .inl (cyI, 24, .inl zf))] [(cyI, .int)] eX sz)) (va_Qv (fun u : Int32 × (Nat → Int32) => u = (x_X7_add zc zf fr to ra he_)) (fun (u : Int32 × (Nat → Int32)) t => va_P (dC, dI) vwCl [(qz, .inr (7, [.ref qzv, .int (u.1)])), (qzv, .inl (cyI, 24, .inl (u.2)))] t.heap ∧ va_D (va_A [(qz, .inr (7, [.ref qzv, .int zc])), (qzv, .inl (cyI, 24, .inl zf))] sz) [(qz, .inr (7, [.ref qzv, .int (u.1)])), (qzv, .inl (cyI, 24, .inl (u.2)))]) (va_A [(qz, .inr (7, [.ref qzv, .int zc])), (qzv, .inl (cyI, 24, .inl zf))] sz)) 0 0 (va_A [(qz, .inr (7, [.ref qzv, .int zc])), (qzv, .inl (cyI, 24, .inl zf))] sz) := by
  refine Met.ofW (cc := cX7_add) (maxL := 6) (ret := none) (by decide) rfl ?_
  intro p e s m args below meth c s₁ B hml hv
  obtain ⟨rfl, hsz, hP, hK, hD0, he⟩ := hv
  have hx := B.exec
  have hb := B.bytes
  have hr := B.returns
  have hts := atoms_spec (ws := wqX7_add) B.pre
  have hown : s.vm.findClass RX7 = some m.cls := findClass_of_methodNamed B.named
  have hlocks := B.notSynchronized
  have w_0 := hts (Cond.fieldLink RX7 19 "CraneLimiter$Zones" "count" "I") (List.mem_cons_of_mem _ b_160)
  have w_1 := hts (Cond.fieldLink RX7 9 "CraneLimiter$Zones" "values" "[I") (List.mem_cons_of_mem _ b_68)
  have i_X7 : ∀ w ∈ u_ws RX7 TX7 2, w ∈ wqX7_add := fun w h => List.mem_cons_of_mem _ (bX7 w h)
  subst hsz
  have hD := hD0.self (sz := s.heap.size)
  generalize hAe : va_A [(qz, .inr (7, [.ref qzv, .int zc])), (qzv, .inl (cyI, 24, .inl zf))] s.heap.size = A at hD he ⊢
  have hA : ∀ q : Nat, s.heap.size ≤ q → A q := fun q h => by rw [← hAe]; exact Or.inr h
  have hS : va_S A s.heap s.heap [] := va_S.rf
  have hP : va_P (dC, dI) vwCl [(qz, .inr (7, [.ref qzv, .int zc])), (qzv, .inl (cyI, 24, .inl zf))] s.heap := hP
  have hl := lv_entry ([.ref qz, .int fr, .int to, .int ra, .int he_] : List Value) (n := 6) (Nat.le_of_ble_eq_true rfl)
  rw [lg_entry_eq]
  generalize (lg_sl ([.ref qz, .int fr, .int to, .int ra, .int he_] : List Value) ++ List.replicate (6 - (lg_sl ([.ref qz, .int fr, .int to, .int ra, .int he_] : List Value)).length) Slot.unset).toArray = ls at hl ⊢
  have hl : lv_has ls 6 [(0, .ref qz), (1, .int fr), (2, .int to), (3, .int ra), (4, .int he_)] := hl
  have hE : x_X7_add zc zf fr to ra he_ = x_X7_add zc zf fr to ra he_ := rfl
  obtain ⟨hzn, hzb⟩ := nI_cl hzc.1
  refine lv_aload_n hx hb dX7_add_0 rfl (lv_at hl 0 rfl) ?_
  refine va_get (D := (dC, dI)) (ci := 7) (v := .int zc) (C := RX7) (T := TX7) (N := 2) hx hb hts i_X7 hown hK hP 0 rfl rfl 1 (by decide) w_0 (fun _ h9 => h9) rfl dX7_add_1 ?_
  refine lv_iconst (v := 4) hx hb dX7_add_4 (by decide) ?_
  refine lv_imul hx hb dX7_add_5 ?_
  refine lv_topi (fun y_1 ey_1 => ?_)
  obtain rfl : y_1 = nI (zc.toNatClampNeg * 4) := ey_1.trans (nmul hzn (rfl : (4 : Int32) = nI 4))
  refine lv_istore (lv' := [(5, .int (nI (zc.toNatClampNeg * 4))), (0, .ref qz), (1, .int fr), (2, .int to), (3, .int ra), (4, .int he_)]) hx hb dX7_add_6 hl (by decide) rfl (fun ls hl => ?_)
  refine lv_iload hx hb dX7_add_8 (lv_at hl 0 rfl) ?_
  refine lv_if_lt (tgt := 25) hx hb dX7_add_10 (by decide) (fun c_2 => ?_) (fun c_2 => ?_)
  ·
    have c_2 : (zc.toNatClampNeg * 4) < 0 := by
      have h1 : ((nI (zc.toNatClampNeg * 4))) = nI (zc.toNatClampNeg * 4) := rfl
      have h2 : ((0 : Int32)) = nI 0 := rfl
      have h3 : (nI (zc.toNatClampNeg * 4) < nI 0) := by first | exact c_2 | (rw [← h1, ← h2]; exact c_2)
      exact (nI_ltI (by omega) (by omega)).mp h3
    have hE := hE.trans (if_pos c_2)
    exact W.vret hx hb hr (fun t h9 hW => ⟨⟨((zc, zf) : Int32 × (Nat → Int32)), rfl, hE.symm, by rw [h9]; exact hP, hD⟩, hS.F h9⟩) hS.2.2 dX7_add_25
  ·
    have c_2 : ¬ (zc.toNatClampNeg * 4) < 0 := by
      have h1 : ((nI (zc.toNatClampNeg * 4))) = nI (zc.toNatClampNeg * 4) := rfl
      have h2 : ((0 : Int32)) = nI 0 := rfl
      have h3 : ¬ (nI (zc.toNatClampNeg * 4) < nI 0) := by first | exact c_2 | (rw [← h1, ← h2]; exact c_2)
      exact fun h => h3 ((nI_ltI (by omega) (by omega)).mpr h)
    have hE := hE.trans (if_neg c_2)
    refine lv_iload hx hb dX7_add_13 (lv_at hl 0 rfl) ?_
    refine lv_iconst (v := 4) hx hb dX7_add_15 (by decide) ?_
    refine lv_iadd hx hb dX7_add_16 ?_
    refine lv_topi (fun y_3 ey_3 => ?_)
    obtain rfl : y_3 = nI ((zc.toNatClampNeg * 4) + 4) := ey_3.trans (nadd (rfl : (nI (zc.toNatClampNeg * 4)) = nI (zc.toNatClampNeg * 4)) (rfl : (4 : Int32) = nI 4))
    refine lv_aload_n hx hb dX7_add_17 rfl (lv_at hl 1 rfl) ?_
    refine va_get (D := (dC, dI)) (ci := 7) (v := .ref qzv) (C := RX7) (T := TX7) (N := 2) hx hb hts i_X7 hown hK hP 0 rfl rfl 0 (by decide) w_1 (fun _ h9 => h9) rfl dX7_add_18 ?_
    refine va_alen (v := 24) hx hb hK hP 1 0 rfl rfl rfl dX7_add_21 ?_
    refine lv_icmp_le (tgt := 26) hx hb dX7_add_22 (by decide) (fun c_4 => ?_) (fun c_4 => ?_)
    ·
      have c_4 : ((zc.toNatClampNeg * 4) + 4) ≤ 24 := by
        have h1 : ((nI ((zc.toNatClampNeg * 4) + 4))) = nI ((zc.toNatClampNeg * 4) + 4) := rfl
        have h2 : ((24 : Int32)) = nI 24 := rfl
        have h3 : (nI ((zc.toNatClampNeg * 4) + 4) ≤ nI 24) := by first | exact c_4 | (rw [← h1, ← h2]; exact c_4)
        exact (nI_leI (by omega) (by omega)).mp h3
      have hE := hE.trans (if_pos c_4)
      refine lv_aload_n hx hb dX7_add_26 rfl (lv_at hl 1 rfl) ?_
      refine va_get (D := (dC, dI)) (ci := 7) (v := .ref qzv) (C := RX7) (T := TX7) (N := 2) hx hb hts i_X7 hown hK hP 0 rfl rfl 0 (by decide) w_1 (fun _ h9 => h9) rfl dX7_add_27 ?_
      refine lv_iload hx hb dX7_add_30 (lv_at hl 0 rfl) ?_
      refine lv_iload_n hx hb dX7_add_32 rfl (lv_at hl 2 rfl) ?_
      refine ra_st hx hb hK hP hD hS 1 0 rfl rfl (j := (zc.toNatClampNeg * 4)) (rfl : (nI (zc.toNatClampNeg * 4)) = nI (zc.toNatClampNeg * 4)) (by omega) (by omega) dX7_add_33 (fun H locs hP hD hS => ?_)
      have hP : va_P (dC, dI) vwCl [(qz, .inr (7, [.ref qzv, .int zc])), (qzv, .inl (cyI, 24, .inl (upd zf (zc.toNatClampNeg * 4) fr)))] H := hP
      have hD : va_D A [(qz, .inr (7, [.ref qzv, .int zc])), (qzv, .inl (cyI, 24, .inl (upd zf (zc.toNatClampNeg * 4) fr)))] := hD
      obtain ⟨f_5, ef_5⟩ : ∃ y : Nat → Int32, y = upd zf (zc.toNatClampNeg * 4) fr := ⟨_, rfl⟩
      rw [← ef_5] at hP hD
      have hE := hE.trans (spLet_eq ef_5)
      refine lv_aload_n hx hb dX7_add_34 rfl (lv_at hl 1 rfl) ?_
      refine va_get (D := (dC, dI)) (ci := 7) (v := .ref qzv) (C := RX7) (T := TX7) (N := 2) hx hb hts i_X7 hown hK hP 0 rfl rfl 0 (by decide) w_1 (fun _ h9 => h9) rfl dX7_add_35 ?_
      refine lv_iload hx hb dX7_add_38 (lv_at hl 0 rfl) ?_
      refine lv_iconst (v := 1) hx hb dX7_add_40 (by decide) ?_
      refine lv_iadd hx hb dX7_add_41 ?_
      refine lv_topi (fun y_6 ey_6 => ?_)
      obtain rfl : y_6 = nI ((zc.toNatClampNeg * 4) + 1) := ey_6.trans (nadd (rfl : (nI (zc.toNatClampNeg * 4)) = nI (zc.toNatClampNeg * 4)) (rfl : (1 : Int32) = nI 1))
      refine lv_iload_n hx hb dX7_add_42 rfl (lv_at hl 3 rfl) ?_
      refine ra_st hx hb hK hP hD hS 1 0 rfl rfl (j := ((zc.toNatClampNeg * 4) + 1)) (rfl : (nI ((zc.toNatClampNeg * 4) + 1)) = nI ((zc.toNatClampNeg * 4) + 1)) (by omega) (by omega) dX7_add_43 (fun H locs hP hD hS => ?_)
      have hP : va_P (dC, dI) vwCl [(qz, .inr (7, [.ref qzv, .int zc])), (qzv, .inl (cyI, 24, .inl (upd f_5 ((zc.toNatClampNeg * 4) + 1) to)))] H := hP
      have hD : va_D A [(qz, .inr (7, [.ref qzv, .int zc])), (qzv, .inl (cyI, 24, .inl (upd f_5 ((zc.toNatClampNeg * 4) + 1) to)))] := hD
      obtain ⟨f_7, ef_7⟩ : ∃ y : Nat → Int32, y = upd f_5 ((zc.toNatClampNeg * 4) + 1) to := ⟨_, rfl⟩
      rw [← ef_7] at hP hD
      have hE := hE.trans (spLet_eq ef_7)
      refine lv_aload_n hx hb dX7_add_44 rfl (lv_at hl 1 rfl) ?_
      refine va_get (D := (dC, dI)) (ci := 7) (v := .ref qzv) (C := RX7) (T := TX7) (N := 2) hx hb hts i_X7 hown hK hP 0 rfl rfl 0 (by decide) w_1 (fun _ h9 => h9) rfl dX7_add_45 ?_
      refine lv_iload hx hb dX7_add_48 (lv_at hl 0 rfl) ?_
      refine lv_iconst (v := 2) hx hb dX7_add_50 (by decide) ?_
      refine lv_iadd hx hb dX7_add_51 ?_
      refine lv_topi (fun y_8 ey_8 => ?_)
      obtain rfl : y_8 = nI ((zc.toNatClampNeg * 4) + 2) := ey_8.trans (nadd (rfl : (nI (zc.toNatClampNeg * 4)) = nI (zc.toNatClampNeg * 4)) (rfl : (2 : Int32) = nI 2))
      refine lv_iload_n hx hb dX7_add_52 rfl (lv_at hl 4 rfl) ?_
      refine ra_st hx hb hK hP hD hS 1 0 rfl rfl (j := ((zc.toNatClampNeg * 4) + 2)) (rfl : (nI ((zc.toNatClampNeg * 4) + 2)) = nI ((zc.toNatClampNeg * 4) + 2)) (by omega) (by omega) dX7_add_53 (fun H locs hP hD hS => ?_)
      have hP : va_P (dC, dI) vwCl [(qz, .inr (7, [.ref qzv, .int zc])), (qzv, .inl (cyI, 24, .inl (upd f_7 ((zc.toNatClampNeg * 4) + 2) ra)))] H := hP
      have hD : va_D A [(qz, .inr (7, [.ref qzv, .int zc])), (qzv, .inl (cyI, 24, .inl (upd f_7 ((zc.toNatClampNeg * 4) + 2) ra)))] := hD
      obtain ⟨f_9, ef_9⟩ : ∃ y : Nat → Int32, y = upd f_7 ((zc.toNatClampNeg * 4) + 2) ra := ⟨_, rfl⟩
      rw [← ef_9] at hP hD
      have hE := hE.trans (spLet_eq ef_9)
      refine lv_aload_n hx hb dX7_add_54 rfl (lv_at hl 1 rfl) ?_
      refine va_get (D := (dC, dI)) (ci := 7) (v := .ref qzv) (C := RX7) (T := TX7) (N := 2) hx hb hts i_X7 hown hK hP 0 rfl rfl 0 (by decide) w_1 (fun _ h9 => h9) rfl dX7_add_55 ?_
      refine lv_iload hx hb dX7_add_58 (lv_at hl 0 rfl) ?_
      refine lv_iconst (v := 3) hx hb dX7_add_60 (by decide) ?_
      refine lv_iadd hx hb dX7_add_61 ?_
      refine lv_topi (fun y_10 ey_10 => ?_)
      obtain rfl : y_10 = nI ((zc.toNatClampNeg * 4) + 3) := ey_10.trans (nadd (rfl : (nI (zc.toNatClampNeg * 4)) = nI (zc.toNatClampNeg * 4)) (rfl : (3 : Int32) = nI 3))
      refine lv_iload hx hb dX7_add_62 (lv_at hl 5 rfl) ?_
      refine ra_st hx hb hK hP hD hS 1 0 rfl rfl (j := ((zc.toNatClampNeg * 4) + 3)) (rfl : (nI ((zc.toNatClampNeg * 4) + 3)) = nI ((zc.toNatClampNeg * 4) + 3)) (by omega) (by omega) dX7_add_64 (fun H locs hP hD hS => ?_)
      have hP : va_P (dC, dI) vwCl [(qz, .inr (7, [.ref qzv, .int zc])), (qzv, .inl (cyI, 24, .inl (upd f_9 ((zc.toNatClampNeg * 4) + 3) he_)))] H := hP
      have hD : va_D A [(qz, .inr (7, [.ref qzv, .int zc])), (qzv, .inl (cyI, 24, .inl (upd f_9 ((zc.toNatClampNeg * 4) + 3) he_)))] := hD
      obtain ⟨f_11, ef_11⟩ : ∃ y : Nat → Int32, y = upd f_9 ((zc.toNatClampNeg * 4) + 3) he_ := ⟨_, rfl⟩
      rw [← ef_11] at hP hD
      have hE := hE.trans (spLet_eq ef_11)
      refine lv_aload_n hx hb dX7_add_65 rfl (lv_at hl 1 rfl) ?_
      refine lv_dup hx hb dX7_add_66 rfl ?_
      refine va_get (D := (dC, dI)) (ci := 7) (v := .int zc) (C := RX7) (T := TX7) (N := 2) hx hb hts i_X7 hown hK hP 0 rfl rfl 1 (by decide) w_0 (fun _ h9 => h9) rfl dX7_add_67 ?_
      refine lv_iconst (v := 1) hx hb dX7_add_70 (by decide) ?_
      refine lv_iadd hx hb dX7_add_71 ?_
      refine lv_topi (fun y_12 ey_12 => ?_)
      obtain rfl : y_12 = nI (zc.toNatClampNeg + 1) := ey_12.trans (nadd hzn (rfl : (1 : Int32) = nI 1))
      refine va_put (D := (dC, dI)) (ci := 7) (v := .int (nI (zc.toNatClampNeg + 1))) (ty := .int) (C := RX7) (T := TX7) (N := 2) hx hb hts i_X7 tyX7 tyX7_ok nmX7 hown hK hP hD hS 0 rfl rfl 1 (by decide) w_0 (fun _ h9 => h9) rfl (by decide +kernel) (rfl) (rfl) (Nat.le_of_ble_eq_true rfl) dX7_add_72 (fun H locs hP hD hS => ?_)
      have hP : va_P (dC, dI) vwCl [(qz, .inr (7, [.ref qzv, .int (nI (zc.toNatClampNeg + 1))])), (qzv, .inl (cyI, 24, .inl f_11))] H := hP
      have hD : va_D A [(qz, .inr (7, [.ref qzv, .int (nI (zc.toNatClampNeg + 1))])), (qzv, .inl (cyI, 24, .inl f_11))] := hD
      exact W.vret hx hb hr (fun t h9 hW => ⟨⟨(((nI (zc.toNatClampNeg + 1)), f_11) : Int32 × (Nat → Int32)), rfl, hE.symm, by rw [h9]; exact hP, hD⟩, hS.F h9⟩) hS.2.2 dX7_add_75
    ·
      have c_4 : ¬ ((zc.toNatClampNeg * 4) + 4) ≤ 24 := by
        have h1 : ((nI ((zc.toNatClampNeg * 4) + 4))) = nI ((zc.toNatClampNeg * 4) + 4) := rfl
        have h2 : ((24 : Int32)) = nI 24 := rfl
        have h3 : ¬ (nI ((zc.toNatClampNeg * 4) + 4) ≤ nI 24) := by first | exact c_4 | (rw [← h1, ← h2]; exact c_4)
        exact fun h => h3 ((nI_leI (by omega) (by omega)).mpr h)
      have hE := hE.trans (if_neg c_4)
      exact W.vret hx hb hr (fun t h9 hW => ⟨⟨((zc, zf) : Int32 × (Nat → Int32)), rfl, hE.symm, by rw [h9]; exact hP, hD⟩, hS.F h9⟩) hS.2.2 dX7_add_25
def x_X7_remove_b26 (zc : Int32) (rec26 : Nat → (Nat → Int32) → (Int32 × (Nat → Int32))) : Nat → (Nat → Int32) → (Int32 × (Nat → Int32)) :=
  fun k2_26 w1_a_26 => if ((zc.toNatClampNeg - 1) * 4) ≤ k2_26 then (spLet ((zc - (1 : Int32))) (fun x_7 => (x_7, w1_a_26))) else (spLet ((w1_a_26 (k2_26 + 4))) (fun x_8 => spLet (upd w1_a_26 (k2_26) x_8) (fun f_9 => rec26 (k2_26 + 1) f_9)))
def x_X7_remove (zc : Int32) (zf : Nat → Int32) (ix : Int32) : Int32 × (Nat → Int32) :=
  if ix.toNatClampNeg < 0 then ((zc, zf)) else (if zc.toNatClampNeg ≤ ix.toNatClampNeg then ((zc, zf)) else (if zc.toNatClampNeg ≤ 6 then (spIter (fun _ _ => default) (x_X7_remove_b26 zc) 21 (ix.toNatClampNeg * 4) zf) else ((zc, zf))))
set_option maxHeartbeats 1000000 in
set_option maxRecDepth 100000 in
theorem c_X7_remove (l : Launch) (dC : Nat → ClassId) (dI : Nat → Nat → Nat) (cyI : ClassId) (sz : Nat) (qz : Nat) (qzv : Nat) (zc : Int32) (zf : Nat → Int32) (ix : Int32) (hzc : 0 ≤ zc.toInt ∧ zc.toInt ≤ 6) (hix : ix = nI ix.toNatClampNeg) (hixb : ix.toNatClampNeg < zc.toNatClampNeg) : Met l yX7_remove wqX7_remove ({ frames := 0, cells := 0, slots := 0, locals := 0 } : Room) (va_Pc [.ref qz, .int ix] (pC (dC, dI) [(qz, .inr (7, [.ref qzv, .int zc])), (qzv, .inl (cyI, 24, .inl zf))] [(cyI, .int)] eX sz)) (va_Qv (fun u : Int32 × (Nat → Int32) => u = (x_X7_remove zc zf ix)) (fun (u : Int32 × (Nat → Int32)) t => va_P (dC, dI) vwCl [(qz, .inr (7, [.ref qzv, .int (u.1)])), (qzv, .inl (cyI, 24, .inl (u.2)))] t.heap ∧ va_D (va_A [(qz, .inr (7, [.ref qzv, .int zc])), (qzv, .inl (cyI, 24, .inl zf))] sz) [(qz, .inr (7, [.ref qzv, .int (u.1)])), (qzv, .inl (cyI, 24, .inl (u.2)))]) (va_A [(qz, .inr (7, [.ref qzv, .int zc])), (qzv, .inl (cyI, 24, .inl zf))] sz)) 0 0 (va_A [(qz, .inr (7, [.ref qzv, .int zc])), (qzv, .inl (cyI, 24, .inl zf))] sz) := by
  refine Met.ofW (cc := cX7_remove) (maxL := 3) (ret := none) (by decide) rfl ?_
  intro p e s m args below meth c s₁ B hml hv
  obtain ⟨rfl, hsz, hP, hK, hD0, he⟩ := hv
  have hx := B.exec
  have hb := B.bytes
  have hr := B.returns
  have hts := atoms_spec (ws := wqX7_remove) B.pre
  have hown : s.vm.findClass RX7 = some m.cls := findClass_of_methodNamed B.named
  have hlocks := B.notSynchronized
  have w_0 := hts (Cond.fieldLink RX7 19 "CraneLimiter$Zones" "count" "I") (List.mem_cons_of_mem _ b_160)
  have w_1 := hts (Cond.fieldLink RX7 9 "CraneLimiter$Zones" "values" "[I") (List.mem_cons_of_mem _ b_68)
  have i_X7 : ∀ w ∈ u_ws RX7 TX7 2, w ∈ wqX7_remove := fun w h => List.mem_cons_of_mem _ (bX7 w h)
  subst hsz
  have hD := hD0.self (sz := s.heap.size)
  generalize hAe : va_A [(qz, .inr (7, [.ref qzv, .int zc])), (qzv, .inl (cyI, 24, .inl zf))] s.heap.size = A at hD he ⊢
  have hA : ∀ q : Nat, s.heap.size ≤ q → A q := fun q h => by rw [← hAe]; exact Or.inr h
  have hS : va_S A s.heap s.heap [] := va_S.rf
  have hP : va_P (dC, dI) vwCl [(qz, .inr (7, [.ref qzv, .int zc])), (qzv, .inl (cyI, 24, .inl zf))] s.heap := hP
  have hl := lv_entry ([.ref qz, .int ix] : List Value) (n := 3) (Nat.le_of_ble_eq_true rfl)
  rw [lg_entry_eq]
  generalize (lg_sl ([.ref qz, .int ix] : List Value) ++ List.replicate (3 - (lg_sl ([.ref qz, .int ix] : List Value)).length) Slot.unset).toArray = ls at hl ⊢
  have hl : lv_has ls 3 [(0, .ref qz), (1, .int ix)] := hl
  have hE : x_X7_remove zc zf ix = x_X7_remove zc zf ix := rfl
  obtain ⟨hzn, hzb⟩ := nI_cl hzc.1
  refine lv_iload_n hx hb dX7_remove_0 rfl (lv_at hl 1 rfl) ?_
  refine lv_if_lt (tgt := 21) hx hb dX7_remove_1 (by decide) (fun c_1 => ?_) (fun c_1 => ?_)
  ·
    have c_1 : ix.toNatClampNeg < 0 := by
      have h1 : (ix) = nI ix.toNatClampNeg := hix
      have h2 : ((0 : Int32)) = nI 0 := rfl
      have h3 : (nI ix.toNatClampNeg < nI 0) := by first | exact c_1 | (rw [← h1, ← h2]; exact c_1)
      exact (nI_ltI (by omega) (by omega)).mp h3
    have hE := hE.trans (if_pos c_1)
    exact W.vret hx hb hr (fun t h9 hW => ⟨⟨((zc, zf) : Int32 × (Nat → Int32)), rfl, hE.symm, by rw [h9]; exact hP, hD⟩, hS.F h9⟩) hS.2.2 dX7_remove_21
  ·
    have c_1 : ¬ ix.toNatClampNeg < 0 := by
      have h1 : (ix) = nI ix.toNatClampNeg := hix
      have h2 : ((0 : Int32)) = nI 0 := rfl
      have h3 : ¬ (nI ix.toNatClampNeg < nI 0) := by first | exact c_1 | (rw [← h1, ← h2]; exact c_1)
      exact fun h => h3 ((nI_ltI (by omega) (by omega)).mpr h)
    have hE := hE.trans (if_neg c_1)
    refine lv_iload_n hx hb dX7_remove_4 rfl (lv_at hl 1 rfl) ?_
    refine lv_aload_n hx hb dX7_remove_5 rfl (lv_at hl 0 rfl) ?_
    refine va_get (D := (dC, dI)) (ci := 7) (v := .int zc) (C := RX7) (T := TX7) (N := 2) hx hb hts i_X7 hown hK hP 0 rfl rfl 1 (by decide) w_0 (fun _ h9 => h9) rfl dX7_remove_6 ?_
    refine lv_icmp_ge (tgt := 21) hx hb dX7_remove_9 (by decide) (fun c_2 => ?_) (fun c_2 => ?_)
    ·
      have c_2 : zc.toNatClampNeg ≤ ix.toNatClampNeg := by
        have h1 : (ix) = nI ix.toNatClampNeg := hix
        have h2 : (zc) = nI zc.toNatClampNeg := hzn
        have h3 : (nI zc.toNatClampNeg ≤ nI ix.toNatClampNeg) := by first | exact c_2 | (rw [← h1, ← h2]; exact c_2)
        exact (nI_leI (by omega) (by omega)).mp h3
      have hE := hE.trans (if_pos c_2)
      exact W.vret hx hb hr (fun t h9 hW => ⟨⟨((zc, zf) : Int32 × (Nat → Int32)), rfl, hE.symm, by rw [h9]; exact hP, hD⟩, hS.F h9⟩) hS.2.2 dX7_remove_21
    ·
      have c_2 : ¬ zc.toNatClampNeg ≤ ix.toNatClampNeg := by
        have h1 : (ix) = nI ix.toNatClampNeg := hix
        have h2 : (zc) = nI zc.toNatClampNeg := hzn
        have h3 : ¬ (nI zc.toNatClampNeg ≤ nI ix.toNatClampNeg) := by first | exact c_2 | (rw [← h1, ← h2]; exact c_2)
        exact fun h => h3 ((nI_leI (by omega) (by omega)).mpr h)
      have hE := hE.trans (if_neg c_2)
      refine lv_aload_n hx hb dX7_remove_12 rfl (lv_at hl 0 rfl) ?_
      refine va_get (D := (dC, dI)) (ci := 7) (v := .int zc) (C := RX7) (T := TX7) (N := 2) hx hb hts i_X7 hown hK hP 0 rfl rfl 1 (by decide) w_0 (fun _ h9 => h9) rfl dX7_remove_13 ?_
      refine lv_bipush (v := 6) hx hb dX7_remove_16 (by decide) ?_
      refine lv_icmp_le (tgt := 22) hx hb dX7_remove_18 (by decide) (fun c_3 => ?_) (fun c_3 => ?_)
      ·
        have c_3 : zc.toNatClampNeg ≤ 6 := by
          have h1 : (zc) = nI zc.toNatClampNeg := hzn
          have h2 : ((6 : Int32)) = nI 6 := rfl
          have h3 : (nI zc.toNatClampNeg ≤ nI 6) := by first | exact c_3 | (rw [← h1, ← h2]; exact c_3)
          exact (nI_leI (by omega) (by omega)).mp h3
        have hE := hE.trans (if_pos c_3)
        refine lv_iload_n hx hb dX7_remove_22 rfl (lv_at hl 1 rfl) ?_
        refine lv_iconst (v := 4) hx hb dX7_remove_23 (by decide) ?_
        refine lv_imul hx hb dX7_remove_24 ?_
        refine lv_topi (fun y_4 ey_4 => ?_)
        obtain rfl : y_4 = nI (ix.toNatClampNeg * 4) := ey_4.trans (nmul hix (rfl : (4 : Int32) = nI 4))
        refine lv_istore_n (lv' := [(2, .int (nI (ix.toNatClampNeg * 4))), (0, .ref qz), (1, .int ix)]) hx hb dX7_remove_25 rfl hl (by decide) rfl (fun ls hl => ?_)
        have L26 : ∀ (n26 : Nat) (k2_26 : Nat) (w1_a_26 : Nat → Int32) (hi : k2_26 ≤ 20 ∧ 20 < k2_26 + n26) (H : Heap) (locs : List Loc) (hP : va_P (dC, dI) vwCl [(qz, .inr (7, [.ref qzv, .int zc])), (qzv, .inl (cyI, 24, .inl w1_a_26))] H) (hD : va_D A [(qz, .inr (7, [.ref qzv, .int zc])), (qzv, .inl (cyI, 24, .inl w1_a_26))]) (hS : va_S A s.heap H locs) (ls : Array Slot) (hl : lv_has ls 3 [(0, .ref qz), (2, .int (nI k2_26))]) (hE : (x_X7_remove zc zf ix) = spIter (fun _ _ => default) (x_X7_remove_b26 zc) n26 k2_26 w1_a_26), W p l e (headSpec wqX7_remove ({ frames := 0, cells := 0, slots := 0, locals := 0 } : Room)).room s m ([.ref qz, .int ix] : List Value).toArray below meth c H locs 0 0 (MQ below (va_Qv (fun u : Int32 × (Nat → Int32) => u = (x_X7_remove zc zf ix)) (fun (u : Int32 × (Nat → Int32)) t => va_P (dC, dI) vwCl [(qz, .inr (7, [.ref qzv, .int (u.1)])), (qzv, .inl (cyI, 24, .inl (u.2)))] t.heap ∧ va_D A [(qz, .inr (7, [.ref qzv, .int (u.1)])), (qzv, .inl (cyI, 24, .inl (u.2)))]) A) ([.ref qz, .int ix] : List Value).toArray s 0 0 A) (F0 m 26 ls []) := by
          intro n26
          induction n26 with
          | zero =>
            intro k2_26 w1_a_26 hi H locs hP hD hS ls hl hE
            exact absurd hi (by omega)
          | succ n26 ih26 =>
            intro k2_26 w1_a_26 hi H locs hP hD hS ls hl hE
            have hE : (x_X7_remove zc zf ix) = x_X7_remove_b26 zc (spIter (fun _ _ => default) (x_X7_remove_b26 zc) n26) k2_26 w1_a_26 := hE
            refine lv_iload_n hx hb dX7_remove_26 rfl (lv_at hl 1 rfl) ?_
            refine lv_aload_n hx hb dX7_remove_27 rfl (lv_at hl 0 rfl) ?_
            refine va_get (D := (dC, dI)) (ci := 7) (v := .int zc) (C := RX7) (T := TX7) (N := 2) hx hb hts i_X7 hown hK hP 0 rfl rfl 1 (by decide) w_0 (fun _ h9 => h9) rfl dX7_remove_28 ?_
            refine lv_iconst (v := 1) hx hb dX7_remove_31 (by decide) ?_
            refine lv_isub hx hb dX7_remove_32 ?_
            refine lv_topi (fun y_5 ey_5 => ?_)
            obtain rfl : y_5 = nI (zc.toNatClampNeg - 1) := ey_5.trans (nsub hzn (rfl : (1 : Int32) = nI 1) (by omega))
            refine lv_iconst (v := 4) hx hb dX7_remove_33 (by decide) ?_
            refine lv_imul hx hb dX7_remove_34 ?_
            refine lv_icmp_ge (tgt := 58) hx hb dX7_remove_35 (by decide) (fun c_6 => ?_) (fun c_6 => ?_)
            ·
              have c_6 : ((zc.toNatClampNeg - 1) * 4) ≤ k2_26 := by
                have h1 : ((nI k2_26)) = nI k2_26 := rfl
                have h2 : (((nI (zc.toNatClampNeg - 1)) * (4 : Int32))) = nI ((zc.toNatClampNeg - 1) * 4) := (nmul (rfl : (nI (zc.toNatClampNeg - 1)) = nI (zc.toNatClampNeg - 1)) (rfl : (4 : Int32) = nI 4))
                have h3 : (nI ((zc.toNatClampNeg - 1) * 4) ≤ nI k2_26) := by first | exact c_6 | (rw [← h1, ← h2]; exact c_6)
                exact (nI_leI (by omega) (by omega)).mp h3
              have hE := hE.trans (if_pos c_6)
              refine lv_aload_n hx hb dX7_remove_58 rfl (lv_at hl 0 rfl) ?_
              refine lv_dup hx hb dX7_remove_59 rfl ?_
              refine va_get (D := (dC, dI)) (ci := 7) (v := .int zc) (C := RX7) (T := TX7) (N := 2) hx hb hts i_X7 hown hK hP 0 rfl rfl 1 (by decide) w_0 (fun _ h9 => h9) rfl dX7_remove_60 ?_
              refine lv_iconst (v := 1) hx hb dX7_remove_63 (by decide) ?_
              refine lv_isub hx hb dX7_remove_64 ?_
              refine lv_topi (fun x_7 ex_7 => ?_)
              have hE := hE.trans (spLet_eq ex_7)
              refine va_put (D := (dC, dI)) (ci := 7) (v := .int x_7) (ty := .int) (C := RX7) (T := TX7) (N := 2) hx hb hts i_X7 tyX7 tyX7_ok nmX7 hown hK hP hD hS 0 rfl rfl 1 (by decide) w_0 (fun _ h9 => h9) rfl (by decide +kernel) (rfl) (rfl) (Nat.le_of_ble_eq_true rfl) dX7_remove_65 (fun H locs hP hD hS => ?_)
              have hP : va_P (dC, dI) vwCl [(qz, .inr (7, [.ref qzv, .int x_7])), (qzv, .inl (cyI, 24, .inl w1_a_26))] H := hP
              have hD : va_D A [(qz, .inr (7, [.ref qzv, .int x_7])), (qzv, .inl (cyI, 24, .inl w1_a_26))] := hD
              exact W.vret hx hb hr (fun t h9 hW => ⟨⟨((x_7, w1_a_26) : Int32 × (Nat → Int32)), rfl, hE.symm, by rw [h9]; exact hP, hD⟩, hS.F h9⟩) hS.2.2 dX7_remove_68
            ·
              have c_6 : ¬ ((zc.toNatClampNeg - 1) * 4) ≤ k2_26 := by
                have h1 : ((nI k2_26)) = nI k2_26 := rfl
                have h2 : (((nI (zc.toNatClampNeg - 1)) * (4 : Int32))) = nI ((zc.toNatClampNeg - 1) * 4) := (nmul (rfl : (nI (zc.toNatClampNeg - 1)) = nI (zc.toNatClampNeg - 1)) (rfl : (4 : Int32) = nI 4))
                have h3 : ¬ (nI ((zc.toNatClampNeg - 1) * 4) ≤ nI k2_26) := by first | exact c_6 | (rw [← h1, ← h2]; exact c_6)
                exact fun h => h3 ((nI_leI (by omega) (by omega)).mpr h)
              have hE := hE.trans (if_neg c_6)
              refine lv_aload_n hx hb dX7_remove_38 rfl (lv_at hl 0 rfl) ?_
              refine va_get (D := (dC, dI)) (ci := 7) (v := .ref qzv) (C := RX7) (T := TX7) (N := 2) hx hb hts i_X7 hown hK hP 0 rfl rfl 0 (by decide) w_1 (fun _ h9 => h9) rfl dX7_remove_39 ?_
              refine lv_iload_n hx hb dX7_remove_42 rfl (lv_at hl 1 rfl) ?_
              refine lv_aload_n hx hb dX7_remove_43 rfl (lv_at hl 0 rfl) ?_
              refine va_get (D := (dC, dI)) (ci := 7) (v := .ref qzv) (C := RX7) (T := TX7) (N := 2) hx hb hts i_X7 hown hK hP 0 rfl rfl 0 (by decide) w_1 (fun _ h9 => h9) rfl dX7_remove_44 ?_
              refine lv_iload_n hx hb dX7_remove_47 rfl (lv_at hl 1 rfl) ?_
              refine lv_iconst (v := 4) hx hb dX7_remove_48 (by decide) ?_
              refine lv_iadd hx hb dX7_remove_49 ?_
              refine ra_ld hx hb hK hP 1 0 rfl rfl (j := (k2_26 + 4)) (nadd (rfl : (nI k2_26) = nI k2_26) (rfl : (4 : Int32) = nI 4)) (by omega) (by omega) dX7_remove_50 ?_
              refine lv_topi (fun x_8 ex_8 => ?_)
              have hE := hE.trans (spLet_eq ex_8)
              refine ra_st hx hb hK hP hD hS 1 0 rfl rfl (j := k2_26) (rfl : (nI k2_26) = nI k2_26) (by omega) (by omega) dX7_remove_51 (fun H locs hP hD hS => ?_)
              have hP : va_P (dC, dI) vwCl [(qz, .inr (7, [.ref qzv, .int zc])), (qzv, .inl (cyI, 24, .inl (upd w1_a_26 (k2_26) x_8)))] H := hP
              have hD : va_D A [(qz, .inr (7, [.ref qzv, .int zc])), (qzv, .inl (cyI, 24, .inl (upd w1_a_26 (k2_26) x_8)))] := hD
              obtain ⟨f_9, ef_9⟩ : ∃ y : Nat → Int32, y = upd w1_a_26 (k2_26) x_8 := ⟨_, rfl⟩
              rw [← ef_9] at hP hD
              have hE := hE.trans (spLet_eq ef_9)
              refine lv_iinc (v := (nI (k2_26 + 1))) (lv' := [(2, .int (nI (k2_26 + 1))), (0, .ref qz)]) hx hb dX7_remove_52 hl (k := 1) rfl (show _ from (congrArg (fun z => z + Int32.ofInt 1) (rfl)).trans (ninc _ 1)) (by decide) rfl (fun ls hl => ?_)
              refine lv_goto (tgt := 26) hx hb dX7_remove_55 (by decide) ?_
              exact ih26 (k2_26 + 1) f_9 (by omega) _ _ hP hD hS ls (lv_sub hl [1, 0] rfl) hE
        exact L26 21 (ix.toNatClampNeg * 4) zf (by omega) _ _ hP hD hS ls (lv_sub hl [1, 0] rfl) hE
      ·
        have c_3 : ¬ zc.toNatClampNeg ≤ 6 := by
          have h1 : (zc) = nI zc.toNatClampNeg := hzn
          have h2 : ((6 : Int32)) = nI 6 := rfl
          have h3 : ¬ (nI zc.toNatClampNeg ≤ nI 6) := by first | exact c_3 | (rw [← h1, ← h2]; exact c_3)
          exact fun h => h3 ((nI_leI (by omega) (by omega)).mpr h)
        have hE := hE.trans (if_neg c_3)
        exact W.vret hx hb hr (fun t h9 hW => ⟨⟨((zc, zf) : Int32 × (Nat → Int32)), rfl, hE.symm, by rw [h9]; exact hP, hD⟩, hS.F h9⟩) hS.2.2 dX7_remove_21
def x_X7_hash_b15 (zc : Int32) (zf : Nat → Int32) (rec15 : Int64 → Nat → (Int64)) : Int64 → Nat → (Int64) :=
  fun v3_15 k5_15 => if (zc.toNatClampNeg * 4) ≤ k5_15 then v3_15 else (if 24 ≤ k5_15 then v3_15 else (spLet ((((31 : Int64) * v3_15) + ((zf (k5_15)).toInt64))) (fun x_4 => rec15 x_4 (k5_15 + 1))))
def x_X7_hash (zc : Int32) (zf : Nat → Int32) (sta : Int64) : Int64 :=
  spLet ((((31 : Int64) * sta) + zc.toInt64)) (fun x_1 => spIter (fun _ _ => default) (x_X7_hash_b15 zc zf) 25 x_1 0)
set_option maxHeartbeats 1000000 in
set_option maxRecDepth 100000 in
theorem c_X7_hash (l : Launch) (dC : Nat → ClassId) (dI : Nat → Nat → Nat) (cyI : ClassId) (qz : Nat) (qzv : Nat) (zc : Int32) (zf : Nat → Int32) (sta : Int64) (hzc : 0 ≤ zc.toInt ∧ zc.toInt ≤ 6) : Met l yX7_hash wqX7_hash ({ frames := 0, cells := 0, slots := 0, locals := 0 } : Room) (va_Pc [.ref qz, .long sta] (pB (dC, dI) [(qz, .inr (7, [.ref qzv, .int zc])), (qzv, .inl (cyI, 24, .inl zf))] [(cyI, .int)] eX)) (vp_Sl (fun r => r = (x_X7_hash zc zf sta))) 0 0 aF := by
  refine Met.ofW (cc := cX7_hash) (maxL := 6) (ret := (some .long)) (by decide) rfl ?_
  intro p e s m args below meth c s₁ B hml hv
  obtain ⟨rfl, hP, hK, he⟩ := hv
  have hx := B.exec
  have hb := B.bytes
  have hr := B.returns
  have hts := atoms_spec (ws := wqX7_hash) B.pre
  have hown : s.vm.findClass RX7 = some m.cls := findClass_of_methodNamed B.named
  have hlocks := B.notSynchronized
  have w_0 := hts (Cond.constantLong RX7 46 (31)) (List.mem_cons_of_mem _ b_1033)
  have w_1 := hts (Cond.fieldLink RX7 19 "CraneLimiter$Zones" "count" "I") (List.mem_cons_of_mem _ b_160)
  have w_2 := hts (Cond.fieldLink RX7 9 "CraneLimiter$Zones" "values" "[I") (List.mem_cons_of_mem _ b_68)
  have i_X7 : ∀ w ∈ u_ws RX7 TX7 2, w ∈ wqX7_hash := fun w h => List.mem_cons_of_mem _ (bX7 w h)
  have hS : va_S aF s.heap s.heap [] := va_S.rf
  have hP : va_P (dC, dI) vwCl [(qz, .inr (7, [.ref qzv, .int zc])), (qzv, .inl (cyI, 24, .inl zf))] s.heap := hP
  have hl := lv_entry ([.ref qz, .long sta] : List Value) (n := 6) (Nat.le_of_ble_eq_true rfl)
  rw [lg_entry_eq]
  generalize (lg_sl ([.ref qz, .long sta] : List Value) ++ List.replicate (6 - (lg_sl ([.ref qz, .long sta] : List Value)).length) Slot.unset).toArray = ls at hl ⊢
  have hl : lv_has ls 6 [(0, .ref qz), (1, .long sta)] := hl
  have hE : x_X7_hash zc zf sta = x_X7_hash zc zf sta := rfl
  obtain ⟨hzn, hzb⟩ := nI_cl hzc.1
  refine lv_ldc2 (v := 31) hx hb hown w_0 dX7_hash_0 ?_
  refine lv_lload_n hx hb dX7_hash_3 rfl (lv_at hl 1 rfl) ?_
  refine lv_lmul hx hb dX7_hash_4 ?_
  refine lv_aload_n hx hb dX7_hash_5 rfl (lv_at hl 0 rfl) ?_
  refine va_get (D := (dC, dI)) (ci := 7) (v := .int zc) (C := RX7) (T := TX7) (N := 2) hx hb hts i_X7 hown hK hP 0 rfl rfl 1 (by decide) w_1 (fun _ h9 => h9) rfl dX7_hash_6 ?_
  refine lv_i2l hx hb dX7_hash_9 rfl ?_
  refine lv_ladd hx hb dX7_hash_10 ?_
  refine lv_topl (fun x_1 ex_1 => ?_)
  have hE := hE.trans (spLet_eq ex_1)
  refine lv_lstore_n (lv' := [(3, .long x_1), (0, .ref qz), (1, .long sta)]) hx hb dX7_hash_11 rfl hl (by decide) rfl (fun ls hl => ?_)
  refine lv_iconst (v := 0) hx hb dX7_hash_12 (by decide) ?_
  refine lv_istore (lv' := [(5, .int (0 : Int32)), (3, .long x_1), (0, .ref qz), (1, .long sta)]) hx hb dX7_hash_13 hl (by decide) rfl (fun ls hl => ?_)
  have L15 : ∀ (n15 : Nat) (v3_15 : Int64) (k5_15 : Nat) (hi : k5_15 ≤ 24 ∧ 24 < k5_15 + n15) (ls : Array Slot) (hl : lv_has ls 6 [(0, .ref qz), (3, .long v3_15), (5, .int (nI k5_15))]) (hE : (x_X7_hash zc zf sta) = spIter (fun _ _ => default) (x_X7_hash_b15 zc zf) n15 v3_15 k5_15), W p l e (headSpec wqX7_hash ({ frames := 0, cells := 0, slots := 0, locals := 0 } : Room)).room s m ([.ref qz, .long sta] : List Value).toArray below meth c s.heap [] 0 0 (MQ below (vp_Sl (fun r => r = (x_X7_hash zc zf sta))) ([.ref qz, .long sta] : List Value).toArray s 0 0 aF) (F0 m 15 ls []) := by
    intro n15
    induction n15 with
    | zero =>
      intro v3_15 k5_15 hi ls hl hE
      exact absurd hi (by omega)
    | succ n15 ih15 =>
      intro v3_15 k5_15 hi ls hl hE
      have hE : (x_X7_hash zc zf sta) = x_X7_hash_b15 zc zf (spIter (fun _ _ => default) (x_X7_hash_b15 zc zf) n15) v3_15 k5_15 := hE
      refine lv_iload hx hb dX7_hash_15 (lv_at hl 2 rfl) ?_
      refine lv_aload_n hx hb dX7_hash_17 rfl (lv_at hl 0 rfl) ?_
      refine va_get (D := (dC, dI)) (ci := 7) (v := .int zc) (C := RX7) (T := TX7) (N := 2) hx hb hts i_X7 hown hK hP 0 rfl rfl 1 (by decide) w_1 (fun _ h9 => h9) rfl dX7_hash_18 ?_
      refine lv_iconst (v := 4) hx hb dX7_hash_21 (by decide) ?_
      refine lv_imul hx hb dX7_hash_22 ?_
      refine lv_icmp_ge (tgt := 57) hx hb dX7_hash_23 (by decide) (fun c_2 => ?_) (fun c_2 => ?_)
      ·
        have c_2 : (zc.toNatClampNeg * 4) ≤ k5_15 := by
          have h1 : ((nI k5_15)) = nI k5_15 := rfl
          have h2 : ((zc * (4 : Int32))) = nI (zc.toNatClampNeg * 4) := (nmul hzn (rfl : (4 : Int32) = nI 4))
          have h3 : (nI (zc.toNatClampNeg * 4) ≤ nI k5_15) := by first | exact c_2 | (rw [← h1, ← h2]; exact c_2)
          exact (nI_leI (by omega) (by omega)).mp h3
        have hE := hE.trans (if_pos c_2)
        refine lv_lload_n hx hb dX7_hash_57 rfl (lv_at hl 1 rfl) ?_
        exact W.lret (v := v3_15) hx hb hr (fun t ht hW => ⟨_, rfl, hE.symm, ht⟩) (fun q h => by cases h) dX7_hash_58
      ·
        have c_2 : ¬ (zc.toNatClampNeg * 4) ≤ k5_15 := by
          have h1 : ((nI k5_15)) = nI k5_15 := rfl
          have h2 : ((zc * (4 : Int32))) = nI (zc.toNatClampNeg * 4) := (nmul hzn (rfl : (4 : Int32) = nI 4))
          have h3 : ¬ (nI (zc.toNatClampNeg * 4) ≤ nI k5_15) := by first | exact c_2 | (rw [← h1, ← h2]; exact c_2)
          exact fun h => h3 ((nI_leI (by omega) (by omega)).mpr h)
        have hE := hE.trans (if_neg c_2)
        refine lv_iload hx hb dX7_hash_26 (lv_at hl 2 rfl) ?_
        refine lv_aload_n hx hb dX7_hash_28 rfl (lv_at hl 0 rfl) ?_
        refine va_get (D := (dC, dI)) (ci := 7) (v := .ref qzv) (C := RX7) (T := TX7) (N := 2) hx hb hts i_X7 hown hK hP 0 rfl rfl 0 (by decide) w_2 (fun _ h9 => h9) rfl dX7_hash_29 ?_
        refine va_alen (v := 24) hx hb hK hP 1 0 rfl rfl rfl dX7_hash_32 ?_
        refine lv_icmp_ge (tgt := 57) hx hb dX7_hash_33 (by decide) (fun c_3 => ?_) (fun c_3 => ?_)
        ·
          have c_3 : 24 ≤ k5_15 := by
            have h1 : ((nI k5_15)) = nI k5_15 := rfl
            have h2 : ((24 : Int32)) = nI 24 := rfl
            have h3 : (nI 24 ≤ nI k5_15) := by first | exact c_3 | (rw [← h1, ← h2]; exact c_3)
            exact (nI_leI (by omega) (by omega)).mp h3
          have hE := hE.trans (if_pos c_3)
          refine lv_lload_n hx hb dX7_hash_57 rfl (lv_at hl 1 rfl) ?_
          exact W.lret (v := v3_15) hx hb hr (fun t ht hW => ⟨_, rfl, hE.symm, ht⟩) (fun q h => by cases h) dX7_hash_58
        ·
          have c_3 : ¬ 24 ≤ k5_15 := by
            have h1 : ((nI k5_15)) = nI k5_15 := rfl
            have h2 : ((24 : Int32)) = nI 24 := rfl
            have h3 : ¬ (nI 24 ≤ nI k5_15) := by first | exact c_3 | (rw [← h1, ← h2]; exact c_3)
            exact fun h => h3 ((nI_leI (by omega) (by omega)).mpr h)
          have hE := hE.trans (if_neg c_3)
          refine lv_ldc2 (v := 31) hx hb hown w_0 dX7_hash_36 ?_
          refine lv_lload_n hx hb dX7_hash_39 rfl (lv_at hl 1 rfl) ?_
          refine lv_lmul hx hb dX7_hash_40 ?_
          refine lv_aload_n hx hb dX7_hash_41 rfl (lv_at hl 0 rfl) ?_
          refine va_get (D := (dC, dI)) (ci := 7) (v := .ref qzv) (C := RX7) (T := TX7) (N := 2) hx hb hts i_X7 hown hK hP 0 rfl rfl 0 (by decide) w_2 (fun _ h9 => h9) rfl dX7_hash_42 ?_
          refine lv_iload hx hb dX7_hash_45 (lv_at hl 2 rfl) ?_
          refine ra_ld hx hb hK hP 1 0 rfl rfl (j := k5_15) (rfl : (nI k5_15) = nI k5_15) (by omega) (by omega) dX7_hash_47 ?_
          refine lv_i2l hx hb dX7_hash_48 rfl ?_
          refine lv_ladd hx hb dX7_hash_49 ?_
          refine lv_topl (fun x_4 ex_4 => ?_)
          have hE := hE.trans (spLet_eq ex_4)
          refine lv_lstore_n (lv' := [(3, .long x_4), (0, .ref qz), (5, .int (nI k5_15))]) hx hb dX7_hash_50 rfl hl (by decide) rfl (fun ls hl => ?_)
          refine lv_iinc (v := (nI (k5_15 + 1))) (lv' := [(5, .int (nI (k5_15 + 1))), (3, .long x_4), (0, .ref qz)]) hx hb dX7_hash_51 hl (k := 2) rfl (show _ from (congrArg (fun z => z + Int32.ofInt 1) (rfl)).trans (ninc _ 1)) (by decide) rfl (fun ls hl => ?_)
          refine lv_goto (tgt := 15) hx hb dX7_hash_54 (by decide) ?_
          exact ih15 x_4 (k5_15 + 1) (by omega) ls (lv_sub hl [2, 1, 0] rfl) hE
  exact L15 25 x_1 0 (by omega) ls (lv_sub hl [2, 1, 0] rfl) hE
def x_X6_countState (ys : Nat → Int32) (sta : Int32) : (Nat → Int32) :=
  if sta < 0 then ys else (if (4 : Int32) ≤ sta then ys else (spLet (((ys ((sta).toNatClampNeg)) + (1 : Int32))) (fun x_3 => spLet (upd ys ((sta).toNatClampNeg) x_3) (fun f_4 => f_4))))
set_option maxHeartbeats 1000000 in
set_option maxRecDepth 100000 in
theorem c_X6_countState (l : Launch) (dC : Nat → ClassId) (dI : Nat → Nat → Nat) (cyI : ClassId) (sz : Nat) (qy : Nat) (qys : Nat) (qyl : Nat) (yg : Int32) (ys : Nat → Int32) (yl : Nat → Int32) (sta : Int32) : Met l yX6_countState wqX6_countState ({ frames := 0, cells := 0, slots := 0, locals := 0 } : Room) (va_Pc [.ref qy, .int sta] (pC (dC, dI) [(qy, .inr (6, [.ref qys, .ref qyl, .int yg])), (qys, .inl (cyI, 4, .inl ys)), (qyl, .inl (cyI, 8, .inl yl))] [(cyI, .int)] eX sz)) (va_Qv (fun u : (Nat → Int32) => u = (x_X6_countState ys sta)) (fun (u : (Nat → Int32)) t => va_P (dC, dI) vwCl [(qy, .inr (6, [.ref qys, .ref qyl, .int yg])), (qys, .inl (cyI, 4, .inl u)), (qyl, .inl (cyI, 8, .inl yl))] t.heap ∧ va_D (va_A [(qy, .inr (6, [.ref qys, .ref qyl, .int yg])), (qys, .inl (cyI, 4, .inl ys)), (qyl, .inl (cyI, 8, .inl yl))] sz) [(qy, .inr (6, [.ref qys, .ref qyl, .int yg])), (qys, .inl (cyI, 4, .inl u)), (qyl, .inl (cyI, 8, .inl yl))]) (va_A [(qy, .inr (6, [.ref qys, .ref qyl, .int yg])), (qys, .inl (cyI, 4, .inl ys)), (qyl, .inl (cyI, 8, .inl yl))] sz)) 0 0 (va_A [(qy, .inr (6, [.ref qys, .ref qyl, .int yg])), (qys, .inl (cyI, 4, .inl ys)), (qyl, .inl (cyI, 8, .inl yl))] sz) := by
  refine Met.ofW (cc := cX6_countState) (maxL := 2) (ret := none) (by decide) rfl ?_
  intro p e s m args below meth c s₁ B hml hv
  obtain ⟨rfl, hsz, hP, hK, hD0, he⟩ := hv
  have hx := B.exec
  have hb := B.bytes
  have hr := B.returns
  have hts := atoms_spec (ws := wqX6_countState) B.pre
  have hown : s.vm.findClass RX6 = some m.cls := findClass_of_methodNamed B.named
  have hlocks := B.notSynchronized
  have w_0 := hts (Cond.fieldLink RX6 11 "CraneLimiter$Tally" "stateTimes" "[I") (List.mem_cons_of_mem _ b_78)
  have i_X6 : ∀ w ∈ u_ws RX6 TX6 3, w ∈ wqX6_countState := fun w h => List.mem_cons_of_mem _ (bX6 w h)
  subst hsz
  have hD := hD0.self (sz := s.heap.size)
  generalize hAe : va_A [(qy, .inr (6, [.ref qys, .ref qyl, .int yg])), (qys, .inl (cyI, 4, .inl ys)), (qyl, .inl (cyI, 8, .inl yl))] s.heap.size = A at hD he ⊢
  have hA : ∀ q : Nat, s.heap.size ≤ q → A q := fun q h => by rw [← hAe]; exact Or.inr h
  have hS : va_S A s.heap s.heap [] := va_S.rf
  have hP : va_P (dC, dI) vwCl [(qy, .inr (6, [.ref qys, .ref qyl, .int yg])), (qys, .inl (cyI, 4, .inl ys)), (qyl, .inl (cyI, 8, .inl yl))] s.heap := hP
  have hl := lv_entry ([.ref qy, .int sta] : List Value) (n := 2) (Nat.le_of_ble_eq_true rfl)
  rw [lg_entry_eq]
  generalize (lg_sl ([.ref qy, .int sta] : List Value) ++ List.replicate (2 - (lg_sl ([.ref qy, .int sta] : List Value)).length) Slot.unset).toArray = ls at hl ⊢
  have hl : lv_has ls 2 [(0, .ref qy), (1, .int sta)] := hl
  have hE : x_X6_countState ys sta = x_X6_countState ys sta := rfl
  refine lv_iload_n hx hb dX6_countState_0 rfl (lv_at hl 1 rfl) ?_
  refine lv_if_lt (tgt := 19) hx hb dX6_countState_1 (by decide) (fun c_1 => ?_) (fun c_1 => ?_)
  ·
    have hE := hE.trans (if_pos c_1)
    exact W.vret hx hb hr (fun t h9 hW => ⟨⟨(ys : (Nat → Int32)), rfl, hE.symm, by rw [h9]; exact hP, hD⟩, hS.F h9⟩) hS.2.2 dX6_countState_19
  ·
    have hE := hE.trans (if_neg c_1)
    refine lv_iload_n hx hb dX6_countState_4 rfl (lv_at hl 1 rfl) ?_
    refine lv_iconst (v := 4) hx hb dX6_countState_5 (by decide) ?_
    refine lv_icmp_ge (tgt := 19) hx hb dX6_countState_6 (by decide) (fun c_2 => ?_) (fun c_2 => ?_)
    ·
      have hE := hE.trans (if_pos c_2)
      exact W.vret hx hb hr (fun t h9 hW => ⟨⟨(ys : (Nat → Int32)), rfl, hE.symm, by rw [h9]; exact hP, hD⟩, hS.F h9⟩) hS.2.2 dX6_countState_19
    ·
      have hE := hE.trans (if_neg c_2)
      have hk := xinG (N := 4) (n := 4) (by decide) (by assumption) (by assumption)
      have hk2 := hk.2
      refine lv_aload_n hx hb dX6_countState_9 rfl (lv_at hl 0 rfl) ?_
      refine va_get (D := (dC, dI)) (ci := 6) (v := .ref qys) (C := RX6) (T := TX6) (N := 3) hx hb hts i_X6 hown hK hP 0 rfl rfl 0 (by decide) w_0 (fun _ h9 => h9) rfl dX6_countState_10 ?_
      refine lv_iload_n hx hb dX6_countState_13 rfl (lv_at hl 1 rfl) ?_
      refine lv_dup2_11 hx hb dX6_countState_14 rfl rfl ?_
      refine ra_ld hx hb hK hP 1 0 rfl rfl (j := (sta).toNatClampNeg) hk.1 (by omega) (by omega) dX6_countState_15 ?_
      refine lv_iconst (v := 1) hx hb dX6_countState_16 (by decide) ?_
      refine lv_iadd hx hb dX6_countState_17 ?_
      refine lv_topi (fun x_3 ex_3 => ?_)
      have hE := hE.trans (spLet_eq ex_3)
      refine ra_st hx hb hK hP hD hS 1 0 rfl rfl (j := (sta).toNatClampNeg) hk.1 (by omega) (by omega) dX6_countState_18 (fun H locs hP hD hS => ?_)
      have hP : va_P (dC, dI) vwCl [(qy, .inr (6, [.ref qys, .ref qyl, .int yg])), (qys, .inl (cyI, 4, .inl (upd ys ((sta).toNatClampNeg) x_3))), (qyl, .inl (cyI, 8, .inl yl))] H := hP
      have hD : va_D A [(qy, .inr (6, [.ref qys, .ref qyl, .int yg])), (qys, .inl (cyI, 4, .inl (upd ys ((sta).toNatClampNeg) x_3))), (qyl, .inl (cyI, 8, .inl yl))] := hD
      obtain ⟨f_4, ef_4⟩ : ∃ y : Nat → Int32, y = upd ys ((sta).toNatClampNeg) x_3 := ⟨_, rfl⟩
      rw [← ef_4] at hP hD
      have hE := hE.trans (spLet_eq ef_4)
      exact W.vret hx hb hr (fun t h9 hW => ⟨⟨(f_4 : (Nat → Int32)), rfl, hE.symm, by rw [h9]; exact hP, hD⟩, hS.F h9⟩) hS.2.2 dX6_countState_19
def x_X6_beginLift (yg : Int32) : Int32 :=
  if yg = (-1 : Int32) then (0 : Int32) else yg
set_option maxHeartbeats 1000000 in
set_option maxRecDepth 100000 in
theorem c_X6_beginLift (l : Launch) (dC : Nat → ClassId) (dI : Nat → Nat → Nat) (cyI : ClassId) (sz : Nat) (qy : Nat) (qys : Nat) (qyl : Nat) (yg : Int32) (ys : Nat → Int32) (yl : Nat → Int32) : Met l yX6_beginLift wqX6_beginLift ({ frames := 0, cells := 0, slots := 0, locals := 0 } : Room) (va_Pc [.ref qy] (pC (dC, dI) [(qy, .inr (6, [.ref qys, .ref qyl, .int yg])), (qys, .inl (cyI, 4, .inl ys)), (qyl, .inl (cyI, 8, .inl yl))] [(cyI, .int)] eX sz)) (va_Qv (fun u : Int32 => u = (x_X6_beginLift yg)) (fun (u : Int32) t => va_P (dC, dI) vwCl [(qy, .inr (6, [.ref qys, .ref qyl, .int u])), (qys, .inl (cyI, 4, .inl ys)), (qyl, .inl (cyI, 8, .inl yl))] t.heap ∧ va_D (va_A [(qy, .inr (6, [.ref qys, .ref qyl, .int yg])), (qys, .inl (cyI, 4, .inl ys)), (qyl, .inl (cyI, 8, .inl yl))] sz) [(qy, .inr (6, [.ref qys, .ref qyl, .int u])), (qys, .inl (cyI, 4, .inl ys)), (qyl, .inl (cyI, 8, .inl yl))]) (va_A [(qy, .inr (6, [.ref qys, .ref qyl, .int yg])), (qys, .inl (cyI, 4, .inl ys)), (qyl, .inl (cyI, 8, .inl yl))] sz)) 0 0 (va_A [(qy, .inr (6, [.ref qys, .ref qyl, .int yg])), (qys, .inl (cyI, 4, .inl ys)), (qyl, .inl (cyI, 8, .inl yl))] sz) := by
  refine Met.ofW (cc := cX6_beginLift) (maxL := 1) (ret := none) (by decide) rfl ?_
  intro p e s m args below meth c s₁ B hml hv
  obtain ⟨rfl, hsz, hP, hK, hD0, he⟩ := hv
  have hx := B.exec
  have hb := B.bytes
  have hr := B.returns
  have hts := atoms_spec (ws := wqX6_beginLift) B.pre
  have hown : s.vm.findClass RX6 = some m.cls := findClass_of_methodNamed B.named
  have hlocks := B.notSynchronized
  have w_0 := hts (Cond.fieldLink RX6 18 "CraneLimiter$Tally" "greatest" "I") (List.mem_cons_of_mem _ b_80)
  have i_X6 : ∀ w ∈ u_ws RX6 TX6 3, w ∈ wqX6_beginLift := fun w h => List.mem_cons_of_mem _ (bX6 w h)
  subst hsz
  have hD := hD0.self (sz := s.heap.size)
  generalize hAe : va_A [(qy, .inr (6, [.ref qys, .ref qyl, .int yg])), (qys, .inl (cyI, 4, .inl ys)), (qyl, .inl (cyI, 8, .inl yl))] s.heap.size = A at hD he ⊢
  have hA : ∀ q : Nat, s.heap.size ≤ q → A q := fun q h => by rw [← hAe]; exact Or.inr h
  have hS : va_S A s.heap s.heap [] := va_S.rf
  have hP : va_P (dC, dI) vwCl [(qy, .inr (6, [.ref qys, .ref qyl, .int yg])), (qys, .inl (cyI, 4, .inl ys)), (qyl, .inl (cyI, 8, .inl yl))] s.heap := hP
  have hl := lv_entry ([.ref qy] : List Value) (n := 1) (Nat.le_of_ble_eq_true rfl)
  rw [lg_entry_eq]
  generalize (lg_sl ([.ref qy] : List Value) ++ List.replicate (1 - (lg_sl ([.ref qy] : List Value)).length) Slot.unset).toArray = ls at hl ⊢
  have hl : lv_has ls 1 [(0, .ref qy)] := hl
  have hE : x_X6_beginLift yg = x_X6_beginLift yg := rfl
  refine lv_aload_n hx hb dX6_beginLift_0 rfl (lv_at hl 0 rfl) ?_
  refine va_get (D := (dC, dI)) (ci := 6) (v := .int yg) (C := RX6) (T := TX6) (N := 3) hx hb hts i_X6 hown hK hP 0 rfl rfl 2 (by decide) w_0 (fun _ h9 => h9) rfl dX6_beginLift_1 ?_
  refine lv_iconst (v := -1) hx hb dX6_beginLift_4 (by decide) ?_
  refine lv_icmp_ne (tgt := 13) hx hb dX6_beginLift_5 (by decide) (fun c_1 => ?_) (fun c_1 => ?_)
  ·
    have hE := hE.trans (if_neg c_1)
    exact W.vret hx hb hr (fun t h9 hW => ⟨⟨(yg : Int32), rfl, hE.symm, by rw [h9]; exact hP, hD⟩, hS.F h9⟩) hS.2.2 dX6_beginLift_13
  ·
    have hE := hE.trans (if_pos c_1)
    refine lv_aload_n hx hb dX6_beginLift_8 rfl (lv_at hl 0 rfl) ?_
    refine lv_iconst (v := 0) hx hb dX6_beginLift_9 (by decide) ?_
    refine va_put (D := (dC, dI)) (ci := 6) (v := .int (0 : Int32)) (ty := .int) (C := RX6) (T := TX6) (N := 3) hx hb hts i_X6 tyX6 tyX6_ok nmX6 hown hK hP hD hS 0 rfl rfl 2 (by decide) w_0 (fun _ h9 => h9) rfl (by decide +kernel) (rfl) (rfl) (Nat.le_of_ble_eq_true rfl) dX6_beginLift_10 (fun H locs hP hD hS => ?_)
    have hP : va_P (dC, dI) vwCl [(qy, .inr (6, [.ref qys, .ref qyl, .int (0 : Int32)])), (qys, .inl (cyI, 4, .inl ys)), (qyl, .inl (cyI, 8, .inl yl))] H := hP
    have hD : va_D A [(qy, .inr (6, [.ref qys, .ref qyl, .int (0 : Int32)])), (qys, .inl (cyI, 4, .inl ys)), (qyl, .inl (cyI, 8, .inl yl))] := hD
    exact W.vret hx hb hr (fun t h9 hW => ⟨⟨((0 : Int32) : Int32), rfl, hE.symm, by rw [h9]; exact hP, hD⟩, hS.F h9⟩) hS.2.2 dX6_beginLift_13
def x_X6_hash_b60 (yl : Nat → Int32) (rec60 : Int64 → Nat → (Int64)) : Int64 → Nat → (Int64) :=
  fun v3_60 k7_60 => if 8 ≤ k7_60 then v3_60 else (spLet ((yl (k7_60))) (fun x_3 => spLet ((((31 : Int64) * v3_60) + x_3.toInt64)) (fun x_4 => rec60 x_4 (k7_60 + 1))))
def x_X6_hash_b16 (ys : Nat → Int32) (yl : Nat → Int32) (rec16 : Int64 → Nat → (Int64)) : Int64 → Nat → (Int64) :=
  fun v3_16 k7_16 => if 4 ≤ k7_16 then (spIter (fun _ _ => default) (x_X6_hash_b60 yl) 9 v3_16 0) else (spLet ((ys (k7_16))) (fun x_5 => spLet ((((31 : Int64) * v3_16) + x_5.toInt64)) (fun x_6 => rec16 x_6 (k7_16 + 1))))
def x_X6_hash (ys : Nat → Int32) (yl : Nat → Int32) (sta : Int64) : Int64 :=
  spIter (fun _ _ => default) (x_X6_hash_b16 ys yl) 5 sta 0
set_option maxHeartbeats 1000000 in
set_option maxRecDepth 100000 in
theorem c_X6_hash (l : Launch) (dC : Nat → ClassId) (dI : Nat → Nat → Nat) (cyI : ClassId) (qy : Nat) (qys : Nat) (qyl : Nat) (yg : Int32) (ys : Nat → Int32) (yl : Nat → Int32) (sta : Int64) : Met l yX6_hash wqX6_hash ({ frames := 0, cells := 0, slots := 0, locals := 0 } : Room) (va_Pc [.ref qy, .long sta] (pB (dC, dI) [(qy, .inr (6, [.ref qys, .ref qyl, .int yg])), (qys, .inl (cyI, 4, .inl ys)), (qyl, .inl (cyI, 8, .inl yl))] [(cyI, .int)] eX)) (vp_Sl (fun r => r = (x_X6_hash ys yl sta))) 0 0 aF := by
  refine Met.ofW (cc := cX6_hash) (maxL := 9) (ret := (some .long)) (by decide) rfl ?_
  intro p e s m args below meth c s₁ B hml hv
  obtain ⟨rfl, hP, hK, he⟩ := hv
  have hx := B.exec
  have hb := B.bytes
  have hr := B.returns
  have hts := atoms_spec (ws := wqX6_hash) B.pre
  have hown : s.vm.findClass RX6 = some m.cls := findClass_of_methodNamed B.named
  have hlocks := B.notSynchronized
  have w_0 := hts (Cond.fieldLink RX6 11 "CraneLimiter$Tally" "stateTimes" "[I") (List.mem_cons_of_mem _ b_78)
  have w_1 := hts (Cond.fieldLink RX6 15 "CraneLimiter$Tally" "liftCounts" "[I") (List.mem_cons_of_mem _ b_79)
  have w_2 := hts (Cond.constantLong RX6 41 (31)) (List.mem_cons_of_mem _ b_1044)
  have i_X6 : ∀ w ∈ u_ws RX6 TX6 3, w ∈ wqX6_hash := fun w h => List.mem_cons_of_mem _ (bX6 w h)
  have hS : va_S aF s.heap s.heap [] := va_S.rf
  have hP : va_P (dC, dI) vwCl [(qy, .inr (6, [.ref qys, .ref qyl, .int yg])), (qys, .inl (cyI, 4, .inl ys)), (qyl, .inl (cyI, 8, .inl yl))] s.heap := hP
  have hl := lv_entry ([.ref qy, .long sta] : List Value) (n := 9) (Nat.le_of_ble_eq_true rfl)
  rw [lg_entry_eq]
  generalize (lg_sl ([.ref qy, .long sta] : List Value) ++ List.replicate (9 - (lg_sl ([.ref qy, .long sta] : List Value)).length) Slot.unset).toArray = ls at hl ⊢
  have hl : lv_has ls 9 [(0, .ref qy), (1, .long sta)] := hl
  have hE : x_X6_hash ys yl sta = x_X6_hash ys yl sta := rfl
  refine lv_lload_n hx hb dX6_hash_0 rfl (lv_at hl 1 rfl) ?_
  refine lv_lstore_n (lv' := [(3, .long sta), (0, .ref qy), (1, .long sta)]) hx hb dX6_hash_1 rfl hl (by decide) rfl (fun ls hl => ?_)
  refine lv_aload_n hx hb dX6_hash_2 rfl (lv_at hl 1 rfl) ?_
  refine va_get (D := (dC, dI)) (ci := 6) (v := .ref qys) (C := RX6) (T := TX6) (N := 3) hx hb hts i_X6 hown hK hP 0 rfl rfl 0 (by decide) w_0 (fun _ h9 => h9) rfl dX6_hash_3 ?_
  refine lv_astore (lv' := [(5, .ref qys), (3, .long sta), (0, .ref qy), (1, .long sta)]) hx hb dX6_hash_6 hl (by decide) rfl (fun ls hl => ?_)
  refine lv_aload hx hb dX6_hash_8 (lv_at hl 0 rfl) ?_
  refine va_alen (v := 4) hx hb hK hP 1 0 rfl rfl rfl dX6_hash_10 ?_
  refine lv_istore (lv' := [(6, .int (4 : Int32)), (5, .ref qys), (3, .long sta), (0, .ref qy), (1, .long sta)]) hx hb dX6_hash_11 hl (by decide) rfl (fun ls hl => ?_)
  refine lv_iconst (v := 0) hx hb dX6_hash_13 (by decide) ?_
  refine lv_istore (lv' := [(7, .int (0 : Int32)), (6, .int (4 : Int32)), (5, .ref qys), (3, .long sta), (0, .ref qy), (1, .long sta)]) hx hb dX6_hash_14 hl (by decide) rfl (fun ls hl => ?_)
  have L16 : ∀ (n16 : Nat) (v3_16 : Int64) (k7_16 : Nat) (hi : k7_16 ≤ 4 ∧ 4 < k7_16 + n16) (ls : Array Slot) (hl : lv_has ls 9 [(0, .ref qy), (3, .long v3_16), (5, .ref qys), (6, .int (4 : Int32)), (7, .int (nI k7_16))]) (hE : (x_X6_hash ys yl sta) = spIter (fun _ _ => default) (x_X6_hash_b16 ys yl) n16 v3_16 k7_16), W p l e (headSpec wqX6_hash ({ frames := 0, cells := 0, slots := 0, locals := 0 } : Room)).room s m ([.ref qy, .long sta] : List Value).toArray below meth c s.heap [] 0 0 (MQ below (vp_Sl (fun r => r = (x_X6_hash ys yl sta))) ([.ref qy, .long sta] : List Value).toArray s 0 0 aF) (F0 m 16 ls []) := by
    intro n16
    induction n16 with
    | zero =>
      intro v3_16 k7_16 hi ls hl hE
      exact absurd hi (by omega)
    | succ n16 ih16 =>
      intro v3_16 k7_16 hi ls hl hE
      have hE : (x_X6_hash ys yl sta) = x_X6_hash_b16 ys yl (spIter (fun _ _ => default) (x_X6_hash_b16 ys yl) n16) v3_16 k7_16 := hE
      refine lv_iload hx hb dX6_hash_16 (lv_at hl 4 rfl) ?_
      refine lv_iload hx hb dX6_hash_18 (lv_at hl 3 rfl) ?_
      refine lv_icmp_ge (tgt := 46) hx hb dX6_hash_20 (by decide) (fun c_1 => ?_) (fun c_1 => ?_)
      ·
        have c_1 : 4 ≤ k7_16 := by
          have h1 : ((nI k7_16)) = nI k7_16 := rfl
          have h2 : ((4 : Int32)) = nI 4 := rfl
          have h3 : (nI 4 ≤ nI k7_16) := by first | exact c_1 | (rw [← h1, ← h2]; exact c_1)
          exact (nI_leI (by omega) (by omega)).mp h3
        have hE := hE.trans (if_pos c_1)
        refine lv_aload_n hx hb dX6_hash_46 rfl (lv_at hl 0 rfl) ?_
        refine va_get (D := (dC, dI)) (ci := 6) (v := .ref qyl) (C := RX6) (T := TX6) (N := 3) hx hb hts i_X6 hown hK hP 0 rfl rfl 1 (by decide) w_1 (fun _ h9 => h9) rfl dX6_hash_47 ?_
        refine lv_astore (lv' := [(5, .ref qyl), (0, .ref qy), (3, .long v3_16), (6, .int (4 : Int32)), (7, .int (nI k7_16))]) hx hb dX6_hash_50 hl (by decide) rfl (fun ls hl => ?_)
        refine lv_aload hx hb dX6_hash_52 (lv_at hl 0 rfl) ?_
        refine va_alen (v := 8) hx hb hK hP 2 0 rfl rfl rfl dX6_hash_54 ?_
        refine lv_istore (lv' := [(6, .int (8 : Int32)), (5, .ref qyl), (0, .ref qy), (3, .long v3_16), (7, .int (nI k7_16))]) hx hb dX6_hash_55 hl (by decide) rfl (fun ls hl => ?_)
        refine lv_iconst (v := 0) hx hb dX6_hash_57 (by decide) ?_
        refine lv_istore (lv' := [(7, .int (0 : Int32)), (6, .int (8 : Int32)), (5, .ref qyl), (0, .ref qy), (3, .long v3_16)]) hx hb dX6_hash_58 hl (by decide) rfl (fun ls hl => ?_)
        have L60 : ∀ (n60 : Nat) (v3_60 : Int64) (k7_60 : Nat) (hi : k7_60 ≤ 8 ∧ 8 < k7_60 + n60) (ls : Array Slot) (hl : lv_has ls 9 [(3, .long v3_60), (5, .ref qyl), (6, .int (8 : Int32)), (7, .int (nI k7_60))]) (hE : (x_X6_hash ys yl sta) = spIter (fun _ _ => default) (x_X6_hash_b60 yl) n60 v3_60 k7_60), W p l e (headSpec wqX6_hash ({ frames := 0, cells := 0, slots := 0, locals := 0 } : Room)).room s m ([.ref qy, .long sta] : List Value).toArray below meth c s.heap [] 0 0 (MQ below (vp_Sl (fun r => r = (x_X6_hash ys yl sta))) ([.ref qy, .long sta] : List Value).toArray s 0 0 aF) (F0 m 60 ls []) := by
          intro n60
          induction n60 with
          | zero =>
            intro v3_60 k7_60 hi ls hl hE
            exact absurd hi (by omega)
          | succ n60 ih60 =>
            intro v3_60 k7_60 hi ls hl hE
            have hE : (x_X6_hash ys yl sta) = x_X6_hash_b60 yl (spIter (fun _ _ => default) (x_X6_hash_b60 yl) n60) v3_60 k7_60 := hE
            refine lv_iload hx hb dX6_hash_60 (lv_at hl 3 rfl) ?_
            refine lv_iload hx hb dX6_hash_62 (lv_at hl 2 rfl) ?_
            refine lv_icmp_ge (tgt := 90) hx hb dX6_hash_64 (by decide) (fun c_2 => ?_) (fun c_2 => ?_)
            ·
              have c_2 : 8 ≤ k7_60 := by
                have h1 : ((nI k7_60)) = nI k7_60 := rfl
                have h2 : ((8 : Int32)) = nI 8 := rfl
                have h3 : (nI 8 ≤ nI k7_60) := by first | exact c_2 | (rw [← h1, ← h2]; exact c_2)
                exact (nI_leI (by omega) (by omega)).mp h3
              have hE := hE.trans (if_pos c_2)
              refine lv_lload_n hx hb dX6_hash_90 rfl (lv_at hl 0 rfl) ?_
              exact W.lret (v := v3_60) hx hb hr (fun t ht hW => ⟨_, rfl, hE.symm, ht⟩) (fun q h => by cases h) dX6_hash_91
            ·
              have c_2 : ¬ 8 ≤ k7_60 := by
                have h1 : ((nI k7_60)) = nI k7_60 := rfl
                have h2 : ((8 : Int32)) = nI 8 := rfl
                have h3 : ¬ (nI 8 ≤ nI k7_60) := by first | exact c_2 | (rw [← h1, ← h2]; exact c_2)
                exact fun h => h3 ((nI_leI (by omega) (by omega)).mpr h)
              have hE := hE.trans (if_neg c_2)
              refine lv_aload hx hb dX6_hash_67 (lv_at hl 1 rfl) ?_
              refine lv_iload hx hb dX6_hash_69 (lv_at hl 3 rfl) ?_
              refine ra_ld hx hb hK hP 2 0 rfl rfl (j := k7_60) (rfl : (nI k7_60) = nI k7_60) (by omega) (by omega) dX6_hash_71 ?_
              refine lv_topi (fun x_3 ex_3 => ?_)
              have hE := hE.trans (spLet_eq ex_3)
              refine lv_istore (lv' := [(8, .int x_3), (3, .long v3_60), (5, .ref qyl), (6, .int (8 : Int32)), (7, .int (nI k7_60))]) hx hb dX6_hash_72 hl (by decide) rfl (fun ls hl => ?_)
              refine lv_ldc2 (v := 31) hx hb hown w_2 dX6_hash_74 ?_
              refine lv_lload_n hx hb dX6_hash_77 rfl (lv_at hl 1 rfl) ?_
              refine lv_lmul hx hb dX6_hash_78 ?_
              refine lv_iload hx hb dX6_hash_79 (lv_at hl 0 rfl) ?_
              refine lv_i2l hx hb dX6_hash_81 rfl ?_
              refine lv_ladd hx hb dX6_hash_82 ?_
              refine lv_topl (fun x_4 ex_4 => ?_)
              have hE := hE.trans (spLet_eq ex_4)
              refine lv_lstore_n (lv' := [(3, .long x_4), (8, .int x_3), (5, .ref qyl), (6, .int (8 : Int32)), (7, .int (nI k7_60))]) hx hb dX6_hash_83 rfl hl (by decide) rfl (fun ls hl => ?_)
              refine lv_iinc (v := (nI (k7_60 + 1))) (lv' := [(7, .int (nI (k7_60 + 1))), (3, .long x_4), (8, .int x_3), (5, .ref qyl), (6, .int (8 : Int32))]) hx hb dX6_hash_84 hl (k := 4) rfl (show _ from (congrArg (fun z => z + Int32.ofInt 1) (rfl)).trans (ninc _ 1)) (by decide) rfl (fun ls hl => ?_)
              refine lv_goto (tgt := 60) hx hb dX6_hash_87 (by decide) ?_
              exact ih60 x_4 (k7_60 + 1) (by omega) ls (lv_sub hl [1, 3, 4, 0] rfl) hE
        exact L60 9 v3_16 0 (by omega) ls (lv_sub hl [4, 2, 1, 0] rfl) hE
      ·
        have c_1 : ¬ 4 ≤ k7_16 := by
          have h1 : ((nI k7_16)) = nI k7_16 := rfl
          have h2 : ((4 : Int32)) = nI 4 := rfl
          have h3 : ¬ (nI 4 ≤ nI k7_16) := by first | exact c_1 | (rw [← h1, ← h2]; exact c_1)
          exact fun h => h3 ((nI_leI (by omega) (by omega)).mpr h)
        have hE := hE.trans (if_neg c_1)
        refine lv_aload hx hb dX6_hash_23 (lv_at hl 2 rfl) ?_
        refine lv_iload hx hb dX6_hash_25 (lv_at hl 4 rfl) ?_
        refine ra_ld hx hb hK hP 1 0 rfl rfl (j := k7_16) (rfl : (nI k7_16) = nI k7_16) (by omega) (by omega) dX6_hash_27 ?_
        refine lv_topi (fun x_5 ex_5 => ?_)
        have hE := hE.trans (spLet_eq ex_5)
        refine lv_istore (lv' := [(8, .int x_5), (0, .ref qy), (3, .long v3_16), (5, .ref qys), (6, .int (4 : Int32)), (7, .int (nI k7_16))]) hx hb dX6_hash_28 hl (by decide) rfl (fun ls hl => ?_)
        refine lv_ldc2 (v := 31) hx hb hown w_2 dX6_hash_30 ?_
        refine lv_lload_n hx hb dX6_hash_33 rfl (lv_at hl 2 rfl) ?_
        refine lv_lmul hx hb dX6_hash_34 ?_
        refine lv_iload hx hb dX6_hash_35 (lv_at hl 0 rfl) ?_
        refine lv_i2l hx hb dX6_hash_37 rfl ?_
        refine lv_ladd hx hb dX6_hash_38 ?_
        refine lv_topl (fun x_6 ex_6 => ?_)
        have hE := hE.trans (spLet_eq ex_6)
        refine lv_lstore_n (lv' := [(3, .long x_6), (8, .int x_5), (0, .ref qy), (5, .ref qys), (6, .int (4 : Int32)), (7, .int (nI k7_16))]) hx hb dX6_hash_39 rfl hl (by decide) rfl (fun ls hl => ?_)
        refine lv_iinc (v := (nI (k7_16 + 1))) (lv' := [(7, .int (nI (k7_16 + 1))), (3, .long x_6), (8, .int x_5), (0, .ref qy), (5, .ref qys), (6, .int (4 : Int32))]) hx hb dX6_hash_40 hl (k := 5) rfl (show _ from (congrArg (fun z => z + Int32.ofInt 1) (rfl)).trans (ninc _ 1)) (by decide) rfl (fun ls hl => ?_)
        refine lv_goto (tgt := 16) hx hb dX6_hash_43 (by decide) ?_
        exact ih16 x_6 (k7_16 + 1) (by omega) ls (lv_sub hl [3, 1, 4, 5, 0] rfl) hE
  exact L16 5 sta 0 (by omega) ls (lv_sub hl [4, 3, 2, 1, 0] rfl) hE

