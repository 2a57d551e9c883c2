set_option maxHeartbeats 1000000 in
set_option maxRecDepth 100000 in
theorem c_X8_requireIndex (l : Launch) (hst : l.stackTraces = false) (dC : Nat → ClassId) (dI : Nat → Nat → Nat) (cyI : ClassId) (a : Int32) (n : Int32) : vx_Met l yX8_requireIndex wqX8_requireIndex ({ frames := 6, cells := 1, slots := 6, locals := 82 } : Room) (va_Pc [.int a, .int n] (pB (dC, dI) [] [] eX)) (va_Qv (fun _ : Unit => okI a n) (fun _ _ => True) aF) (vx_X (fun _ : Unit => True) (fun E _ _ => E = nIO ∧ ¬ (okI a n)) aF) 1 6 aF := by
  refine vx_ofW (cc := cX8_requireIndex) (maxL := 2) (ret := none) (by decide) rfl ?_
  intro p e s m args below meth c s₁ B hml ht hv
  obtain ⟨rfl, hP, hK, he⟩ := hv
  have hx := B.exec
  have hb := B.bytes
  have hr := B.returns
  have hts := atoms_spec (ws := wqX8_requireIndex) B.pre
  have hown : s.vm.findClass RX8 = some m.cls := findClass_of_methodNamed B.named
  have hlocks := B.notSynchronized
  have w_0 := hts (Cond.classLink RX8 266 "java/lang/IndexOutOfBoundsException") (List.mem_cons_of_mem _ b_113)
  have w_1 := hts (Cond.initialized "java/lang/IndexOutOfBoundsException") (List.mem_cons_of_mem _ b_114)
  have hS : va_S aF s.heap s.heap [] := va_S.rf
  have he0 := he
  have hP : va_P (dC, dI) vwCl [] s.heap := hP
  have hl := lv_entry ([.int a, .int n] : List Value) (n := 2) (Nat.le_of_ble_eq_true rfl)
  rw [lg_entry_eq]
  generalize (lg_sl ([.int a, .int n] : List Value) ++ List.replicate (2 - (lg_sl ([.int a, .int n] : List Value)).length) Slot.unset).toArray = ls at hl ⊢
  have hl : lv_has ls 2 [(0, .int a), (1, .int n)] := hl
  have hE : True := trivial
  refine lv_iload_n hx hb dX8_requireIndex_0 rfl (lv_at hl 0 rfl) ?_
  refine lv_if_lt (tgt := 9) hx hb dX8_requireIndex_1 (by decide) (fun c_1 => ?_) (fun c_1 => ?_)
  ·
    have hbad := okI_0 (n := n) (by assumption)
    obtain ⟨sa, hstr⟩ := he0.txt (268, "there is no such place") (by decide)
    exact vx_throwSW hx hb hst (names := exN) hown (by decide) (by decide) w_0 w_1 hstr (exIO_hat hts he0) exIO_ot he0.zqU he0.zqN hS (hl.1.trans hml.symm) dX8_requireIndex_9 dX8_requireIndex_12 dX8_requireIndex_13 dX8_requireIndex_16 dX8_requireIndex_19 (fun x h => (ht x h).elim) (Nat.le_of_ble_eq_true rfl) (Nat.le_of_ble_eq_true rfl) (Nat.le_of_ble_eq_true rfl) (Nat.le_of_ble_eq_true rfl) hlocks (fun t h1 h2 h3 => ⟨(), trivial, ⟨rfl, hbad⟩, xF_thr hS h2 h3⟩) (fun z h => (hS.2.2 z h).elim) (Nat.le_of_ble_eq_true rfl) (Nat.le_of_ble_eq_true rfl)
  ·
    refine lv_iload_n hx hb dX8_requireIndex_4 rfl (lv_at hl 0 rfl) ?_
    refine lv_iload_n hx hb dX8_requireIndex_5 rfl (lv_at hl 1 rfl) ?_
    refine lv_icmp_lt (tgt := 20) hx hb dX8_requireIndex_6 (by decide) (fun c_2 => ?_) (fun c_2 => ?_)
    ·
      refine W.widen (k := 1) (n := 6) (Nat.le_of_ble_eq_true rfl) (Nat.le_of_ble_eq_true rfl) ?_
      exact vx_ret (W.vret hx hb hr (fun t h9 hW => ⟨⟨(), rfl, okI_2 (by assumption) (by assumption), trivial⟩, hS.F h9⟩) (fun q h => (hS.2.2 q h).elim) dX8_requireIndex_20)
    ·
      have hbad := okI_1 (a := a) (by assumption)
      obtain ⟨sa, hstr⟩ := he0.txt (268, "there is no such place") (by decide)
      exact vx_throwSW hx hb hst (names := exN) hown (by decide) (by decide) w_0 w_1 hstr (exIO_hat hts he0) exIO_ot he0.zqU he0.zqN hS (hl.1.trans hml.symm) dX8_requireIndex_9 dX8_requireIndex_12 dX8_requireIndex_13 dX8_requireIndex_16 dX8_requireIndex_19 (fun x h => (ht x h).elim) (Nat.le_of_ble_eq_true rfl) (Nat.le_of_ble_eq_true rfl) (Nat.le_of_ble_eq_true rfl) (Nat.le_of_ble_eq_true rfl) hlocks (fun t h1 h2 h3 => ⟨(), trivial, ⟨rfl, hbad⟩, xF_thr hS h2 h3⟩) (fun z h => (hS.2.2 z h).elim) (Nat.le_of_ble_eq_true rfl) (Nat.le_of_ble_eq_true rfl)
set_option maxHeartbeats 1000000 in
set_option maxRecDepth 100000 in
theorem c_X8_requireArgument (l : Launch) (hst : l.stackTraces = false) (dC : Nat → ClassId) (dI : Nat → Nat → Nat) (cyI : ClassId) (v : Int32) (lo : Int32) (hi_ : Int32) : vx_Met l yX8_requireArgument wqX8_requireArgument ({ frames := 6, cells := 1, slots := 6, locals := 82 } : Room) (va_Pc [.int v, .int lo, .int hi_] (pB (dC, dI) [] [] eX)) (va_Qv (fun _ : Unit => okA v lo hi_) (fun _ _ => True) aF) (vx_X (fun _ : Unit => True) (fun E _ _ => E = nIA ∧ ¬ (okA v lo hi_)) aF) 1 6 aF := by
  refine vx_ofW (cc := cX8_requireArgument) (maxL := 3) (ret := none) (by decide) rfl ?_
  intro p e s m args below meth c s₁ B hml ht hv
  obtain ⟨rfl, hP, hK, he⟩ := hv
  have hx := B.exec
  have hb := B.bytes
  have hr := B.returns
  have hts := atoms_spec (ws := wqX8_requireArgument) B.pre
  have hown : s.vm.findClass RX8 = some m.cls := findClass_of_methodNamed B.named
  have hlocks := B.notSynchronized
  have w_0 := hts (Cond.classLink RX8 273 "java/lang/IllegalArgumentException") (List.mem_cons_of_mem _ b_118)
  have w_1 := hts (Cond.initialized "java/lang/IllegalArgumentException") (List.mem_cons_of_mem _ b_119)
  have hS : va_S aF s.heap s.heap [] := va_S.rf
  have he0 := he
  have hP : va_P (dC, dI) vwCl [] s.heap := hP
  have hl := lv_entry ([.int v, .int lo, .int hi_] : List Value) (n := 3) (Nat.le_of_ble_eq_true rfl)
  rw [lg_entry_eq]
  generalize (lg_sl ([.int v, .int lo, .int hi_] : List Value) ++ List.replicate (3 - (lg_sl ([.int v, .int lo, .int hi_] : List Value)).length) Slot.unset).toArray = ls at hl ⊢
  have hl : lv_has ls 3 [(0, .int v), (1, .int lo), (2, .int hi_)] := hl
  have hE : True := trivial
  refine lv_iload_n hx hb dX8_requireArgument_0 rfl (lv_at hl 0 rfl) ?_
  refine lv_iload_n hx hb dX8_requireArgument_1 rfl (lv_at hl 1 rfl) ?_
  refine lv_icmp_lt (tgt := 10) hx hb dX8_requireArgument_2 (by decide) (fun c_1 => ?_) (fun c_1 => ?_)
  ·
    have hbad := okA_0 (hi := hi_) (by assumption)
    obtain ⟨sa, hstr⟩ := he0.txt (275, "an argument is out of range") (by decide)
    exact vx_throwSW hx hb hst (names := exN) hown (by decide) (by decide) w_0 w_1 hstr (exIA_hat hts he0) exIA_ot he0.zqU he0.zqN hS (hl.1.trans hml.symm) dX8_requireArgument_10 dX8_requireArgument_13 dX8_requireArgument_14 dX8_requireArgument_17 dX8_requireArgument_20 (fun x h => (ht x h).elim) (Nat.le_of_ble_eq_true rfl) (Nat.le_of_ble_eq_true rfl) (Nat.le_of_ble_eq_true rfl) (Nat.le_of_ble_eq_true rfl) hlocks (fun t h1 h2 h3 => ⟨(), trivial, ⟨rfl, hbad⟩, xF_thr hS h2 h3⟩) (fun z h => (hS.2.2 z h).elim) (Nat.le_of_ble_eq_true rfl) (Nat.le_of_ble_eq_true rfl)
  ·
    refine lv_iload_n hx hb dX8_requireArgument_5 rfl (lv_at hl 0 rfl) ?_
    refine lv_iload_n hx hb dX8_requireArgument_6 rfl (lv_at hl 2 rfl) ?_
    refine lv_icmp_le (tgt := 21) hx hb dX8_requireArgument_7 (by decide) (fun c_2 => ?_) (fun c_2 => ?_)
    ·
      refine W.widen (k := 1) (n := 6) (Nat.le_of_ble_eq_true rfl) (Nat.le_of_ble_eq_true rfl) ?_
      exact vx_ret (W.vret hx hb hr (fun t h9 hW => ⟨⟨(), rfl, okA_2 (by assumption) (by assumption), trivial⟩, hS.F h9⟩) (fun q h => (hS.2.2 q h).elim) dX8_requireArgument_21)
    ·
      have hbad := okA_1 (lo := lo) (by assumption)
      obtain ⟨sa, hstr⟩ := he0.txt (275, "an argument is out of range") (by decide)
      exact vx_throwSW hx hb hst (names := exN) hown (by decide) (by decide) w_0 w_1 hstr (exIA_hat hts he0) exIA_ot he0.zqU he0.zqN hS (hl.1.trans hml.symm) dX8_requireArgument_10 dX8_requireArgument_13 dX8_requireArgument_14 dX8_requireArgument_17 dX8_requireArgument_20 (fun x h => (ht x h).elim) (Nat.le_of_ble_eq_true rfl) (Nat.le_of_ble_eq_true rfl) (Nat.le_of_ble_eq_true rfl) (Nat.le_of_ble_eq_true rfl) hlocks (fun t h1 h2 h3 => ⟨(), trivial, ⟨rfl, hbad⟩, xF_thr hS h2 h3⟩) (fun z h => (hS.2.2 z h).elim) (Nat.le_of_ble_eq_true rfl) (Nat.le_of_ble_eq_true rfl)
set_option maxHeartbeats 1000000 in
set_option maxRecDepth 100000 in
theorem c_X8_requireState (l : Launch) (hst : l.stackTraces = false) (dC : Nat → ClassId) (dI : Nat → Nat → Nat) (cyI : ClassId) (bo : Int32) : vx_Met l yX8_requireState wqX8_requireState ({ frames := 6, cells := 1, slots := 6, locals := 82 } : Room) (va_Pc [.int bo] (pB (dC, dI) [] [] eX)) (va_Qv (fun _ : Unit => okS bo) (fun _ _ => True) aF) (vx_X (fun _ : Unit => True) (fun E _ _ => E = nIS ∧ ¬ (okS bo)) aF) 1 6 aF := by
  refine vx_ofW (cc := cX8_requireState) (maxL := 1) (ret := none) (by decide) rfl ?_
  intro p e s m args below meth c s₁ B hml ht hv
  obtain ⟨rfl, hP, hK, he⟩ := hv
  have hx := B.exec
  have hb := B.bytes
  have hr := B.returns
  have hts := atoms_spec (ws := wqX8_requireState) B.pre
  have hown : s.vm.findClass RX8 = some m.cls := findClass_of_methodNamed B.named
  have hlocks := B.notSynchronized
  have w_0 := hts (Cond.classLink RX8 280 "java/lang/IllegalStateException") (List.mem_cons_of_mem _ b_305)
  have w_1 := hts (Cond.initialized "java/lang/IllegalStateException") (List.mem_cons_of_mem _ b_306)
  have hS : va_S aF s.heap s.heap [] := va_S.rf
  have he0 := he
  have hP : va_P (dC, dI) vwCl [] s.heap := hP
  have hl := lv_entry ([.int bo] : List Value) (n := 1) (Nat.le_of_ble_eq_true rfl)
  rw [lg_entry_eq]
  generalize (lg_sl ([.int bo] : List Value) ++ List.replicate (1 - (lg_sl ([.int bo] : List Value)).length) Slot.unset).toArray = ls at hl ⊢
  have hl : lv_has ls 1 [(0, .int bo)] := hl
  have hE : True := trivial
  refine lv_iload_n hx hb dX8_requireState_0 rfl (lv_at hl 0 rfl) ?_
  refine lv_if_ne (tgt := 15) hx hb dX8_requireState_1 (by decide) (fun c_1 => ?_) (fun c_1 => ?_)
  ·
    refine W.widen (k := 1) (n := 6) (Nat.le_of_ble_eq_true rfl) (Nat.le_of_ble_eq_true rfl) ?_
    exact vx_ret (W.vret hx hb hr (fun t h9 hW => ⟨⟨(), rfl, (by assumption), trivial⟩, hS.F h9⟩) (fun q h => (hS.2.2 q h).elim) dX8_requireState_15)
  ·
    obtain ⟨sa, hstr⟩ := he0.txt (282, "not allowed in the present state") (by decide)
    exact vx_throwSW hx hb hst (names := exN) hown (by decide) (by decide) w_0 w_1 hstr (exIS_hat hts he0) exIS_ot he0.zqU he0.zqN hS (hl.1.trans hml.symm) dX8_requireState_4 dX8_requireState_7 dX8_requireState_8 dX8_requireState_11 dX8_requireState_14 (fun x h => (ht x h).elim) (Nat.le_of_ble_eq_true rfl) (Nat.le_of_ble_eq_true rfl) (Nat.le_of_ble_eq_true rfl) (Nat.le_of_ble_eq_true rfl) hlocks (fun t h1 h2 h3 => ⟨(), trivial, ⟨rfl, (fun h => h (by assumption))⟩, xF_thr hS h2 h3⟩) (fun z h => (hS.2.2 z h).elim) (Nat.le_of_ble_eq_true rfl) (Nat.le_of_ble_eq_true rfl)
def x_X8_requireNoOpposites_b2 (mos : Int32) (rec2 : Nat → (Unit)) : Nat → (Unit) :=
  fun k1_2 => if 8 ≤ k1_2 then (()) else (spLet (((3 : Int32) <<< ((nI k1_2) &&& 31))) (fun x_2 => if (mos &&& x_2) = x_2 then (()) else (rec2 (k1_2 + 2))))
set_option maxHeartbeats 1000000 in
set_option maxRecDepth 100000 in
theorem c_X8_requireNoOpposites (l : Launch) (hst : l.stackTraces = false) (dC : Nat → ClassId) (dI : Nat → Nat → Nat) (cyI : ClassId) (mos : Int32) : vx_Met l yX8_requireNoOpposites wqX8_requireNoOpposites ({ frames := 6, cells := 1, slots := 6, locals := 82 } : Room) (va_Pc [.int mos] (pB (dC, dI) [] [] eX)) (va_Qv (fun _ : Unit => okN mos) (fun _ _ => True) aF) (vx_X (fun _ : Unit => True) (fun E _ _ => E = nIA ∧ ¬ (okN mos)) aF) 1 6 aF := by
  refine vx_ofW (cc := cX8_requireNoOpposites) (maxL := 3) (ret := none) (by decide) rfl ?_
  intro p e s m args below meth c s₁ B hml ht hv
  obtain ⟨rfl, hP, hK, he⟩ := hv
  have hx := B.exec
  have hb := B.bytes
  have hr := B.returns
  have hts := atoms_spec (ws := wqX8_requireNoOpposites) B.pre
  have hown : s.vm.findClass RX8 = some m.cls := findClass_of_methodNamed B.named
  have hlocks := B.notSynchronized
  have w_0 := hts (Cond.classLink RX8 273 "java/lang/IllegalArgumentException") (List.mem_cons_of_mem _ b_118)
  have w_1 := hts (Cond.initialized "java/lang/IllegalArgumentException") (List.mem_cons_of_mem _ b_119)
  have hS : va_S aF s.heap s.heap [] := va_S.rf
  have he0 := he
  have hP : va_P (dC, dI) vwCl [] s.heap := hP
  have hl := lv_entry ([.int mos] : List Value) (n := 3) (Nat.le_of_ble_eq_true rfl)
  rw [lg_entry_eq]
  generalize (lg_sl ([.int mos] : List Value) ++ List.replicate (3 - (lg_sl ([.int mos] : List Value)).length) Slot.unset).toArray = ls at hl ⊢
  have hl : lv_has ls 3 [(0, .int mos)] := hl
  have hE : True := trivial
  refine lv_iconst (v := 0) hx hb dX8_requireNoOpposites_0 (by decide) ?_
  refine lv_istore_n (lv' := [(1, .int (0 : Int32)), (0, .int mos)]) hx hb dX8_requireNoOpposites_1 rfl hl (by decide) rfl (fun ls hl => ?_)
  have L2 : ∀ (n2 : Nat) (k1_2 : Nat) (hi : k1_2 ≤ 8 ∧ k1_2 % 2 = 0 ∧ (∀ j, j < k1_2 → j % 2 = 0 → ¬ oppo mos j) ∧ 8 < k1_2 + 2 * n2) (ls : Array Slot) (hl : lv_has ls 3 [(0, .int mos), (1, .int (nI k1_2))]) (hE : True), W p l e (headSpec wqX8_requireNoOpposites ({ frames := 6, cells := 1, slots := 6, locals := 82 } : Room)).room s m ([.int mos] : List Value).toArray below meth c s.heap [] 0 0 (vx_MQ below (va_Qv (fun _ : Unit => okN mos) (fun _ _ => True) aF) (vx_X (fun _ : Unit => True) (fun E _ _ => E = nIA ∧ ¬ (okN mos)) aF) ([.int mos] : List Value).toArray s 1 6 aF) (F0 m 2 ls []) := by
    intro n2
    induction n2 with
    | zero =>
      intro k1_2 hi ls hl hE
      exact absurd hi (fun h => by have h1 := h.1; have h4 := h.2.2.2; omega)
    | succ n2 ih2 =>
      intro k1_2 hi ls hl hE
      refine lv_iload_n hx hb dX8_requireNoOpposites_2 rfl (lv_at hl 1 rfl) ?_
      refine lv_bipush (v := 8) hx hb dX8_requireNoOpposites_3 (by decide) ?_
      refine lv_icmp_ge (tgt := 36) hx hb dX8_requireNoOpposites_5 (by decide) (fun c_1 => ?_) (fun c_1 => ?_)
      ·
        have c_1 : 8 ≤ k1_2 := by
          have h1 : ((nI k1_2)) = nI k1_2 := rfl
          have h2 : ((8 : Int32)) = nI 8 := rfl
          have h3 : (nI 8 ≤ nI k1_2) := by first | exact c_1 | (rw [← h1, ← h2]; exact c_1)
          exact (nI_leI (by omega) (by omega)).mp h3
        refine W.widen (k := 1) (n := 6) (Nat.le_of_ble_eq_true rfl) (Nat.le_of_ble_eq_true rfl) ?_
        exact vx_ret (W.vret hx hb hr (fun t h9 hW => ⟨⟨(), rfl, (okN_end hi (by omega)), trivial⟩, hS.F h9⟩) (fun q h => (hS.2.2 q h).elim) dX8_requireNoOpposites_36)
      ·
        have c_1 : ¬ 8 ≤ k1_2 := by
          have h1 : ((nI k1_2)) = nI k1_2 := rfl
          have h2 : ((8 : Int32)) = nI 8 := rfl
          have h3 : ¬ (nI 8 ≤ nI k1_2) := by first | exact c_1 | (rw [← h1, ← h2]; exact c_1)
          exact fun h => h3 ((nI_leI (by omega) (by omega)).mpr h)
        refine lv_iconst (v := 3) hx hb dX8_requireNoOpposites_8 (by decide) ?_
        refine lv_iload_n hx hb dX8_requireNoOpposites_9 rfl (lv_at hl 1 rfl) ?_
        refine lv_ishl hx hb dX8_requireNoOpposites_10 ?_
        refine lv_topi (fun x_2 ex_2 => ?_)
        refine lv_istore_n (lv' := [(2, .int x_2), (0, .int mos), (1, .int (nI k1_2))]) hx hb dX8_requireNoOpposites_11 rfl hl (by decide) rfl (fun ls hl => ?_)
        refine lv_iload_n hx hb dX8_requireNoOpposites_12 rfl (lv_at hl 1 rfl) ?_
        refine lv_iload_n hx hb dX8_requireNoOpposites_13 rfl (lv_at hl 0 rfl) ?_
        refine lv_iand hx hb dX8_requireNoOpposites_14 ?_
        refine lv_iload_n hx hb dX8_requireNoOpposites_15 rfl (lv_at hl 0 rfl) ?_
        refine lv_icmp_ne (tgt := 30) hx hb dX8_requireNoOpposites_16 (by decide) (fun c_3 => ?_) (fun c_3 => ?_)
        ·
          have hno : ¬ oppo mos _ := okN_no ex_2 (by assumption)
          refine lv_iinc (v := (nI (k1_2 + 2))) (lv' := [(1, .int (nI (k1_2 + 2))), (2, .int x_2), (0, .int mos)]) hx hb dX8_requireNoOpposites_30 hl (k := 2) rfl (show _ from (congrArg (fun z => z + Int32.ofInt 2) (rfl)).trans (ninc _ 2)) (by decide) rfl (fun ls hl => ?_)
          refine lv_goto (tgt := 2) hx hb dX8_requireNoOpposites_33 (by decide) ?_
          exact ih2 (k1_2 + 2) (okN_step hi (by omega) hno) ls (lv_sub hl [2, 0] rfl) hE
        ·
          obtain ⟨sa, hstr⟩ := he0.txt (278, "two opposite motions are commanded") (by decide)
          exact vx_throwSW hx hb hst (names := exN) hown (by decide) (by decide) w_0 w_1 hstr (exIA_hat hts he0) exIA_ot he0.zqU he0.zqN hS (hl.1.trans hml.symm) dX8_requireNoOpposites_19 dX8_requireNoOpposites_22 dX8_requireNoOpposites_23 dX8_requireNoOpposites_26 dX8_requireNoOpposites_29 (fun x h => (ht x h).elim) (Nat.le_of_ble_eq_true rfl) (Nat.le_of_ble_eq_true rfl) (Nat.le_of_ble_eq_true rfl) (Nat.le_of_ble_eq_true rfl) hlocks (fun t h1 h2 h3 => ⟨(), trivial, ⟨rfl, (okN_bad hi (by omega) (okN_yes ex_2 (by assumption)))⟩, xF_thr hS h2 h3⟩) (fun z h => (hS.2.2 z h).elim) (Nat.le_of_ble_eq_true rfl) (Nat.le_of_ble_eq_true rfl)
  exact L2 5 0 ⟨by omega, by omega, fun j h _ => absurd h (Nat.not_lt_zero j), by omega⟩ ls (lv_sub hl [1, 0] rfl) hE
set_option maxHeartbeats 1000000 in
set_option maxRecDepth 100000 in
theorem c_X8_requirePlace (l : Launch) (hst : l.stackTraces = false) (dC : Nat → ClassId) (dI : Nat → Nat → Nat) (cyI : ClassId) (ta : Int32) (ro : Int32) (co : Int32) : vx_Met l yX8_requirePlace wqX8_requirePlace ({ frames := 7, cells := 3, slots := 18, locals := 103 } : Room) (va_Pc [.int ta, .int ro, .int co] (pB (dC, dI) [] [] eX)) (va_Qv (fun _ : Unit => okI ta 4 ∧ okI ro 4 ∧ okI co 6) (fun _ _ => True) aF) (vx_X (fun _ : Unit => True) (fun E _ _ => E = nIO ∧ ¬ (okI ta 4 ∧ okI ro 4 ∧ okI co 6)) aF) 3 18 aF := by
  refine vx_ofW (cc := cX8_requirePlace) (maxL := 3) (ret := none) (by decide) rfl ?_
  intro p e s m args below meth c s₁ B hml ht hv
  obtain ⟨rfl, hP, hK, he⟩ := hv
  have hx := B.exec
  have hb := B.bytes
  have hr := B.returns
  have hts := atoms_spec (ws := wqX8_requirePlace) B.pre
  have hown : s.vm.findClass RX8 = some m.cls := findClass_of_methodNamed B.named
  have hlocks := B.notSynchronized
  have hS : va_S aF s.heap s.heap [] := va_S.rf
  have he0 := he
  have hP : va_P (dC, dI) vwCl [] s.heap := hP
  have hl := lv_entry ([.int ta, .int ro, .int co] : List Value) (n := 3) (Nat.le_of_ble_eq_true rfl)
  rw [lg_entry_eq]
  generalize (lg_sl ([.int ta, .int ro, .int co] : List Value) ++ List.replicate (3 - (lg_sl ([.int ta, .int ro, .int co] : List Value)).length) Slot.unset).toArray = ls at hl ⊢
  have hl : lv_has ls 3 [(0, .int ta), (1, .int ro), (2, .int co)] := hl
  have hE : True := trivial
  refine lv_iload_n hx hb dX8_requirePlace_0 rfl (lv_at hl 0 rfl) ?_
  refine lv_iconst (v := 4) hx hb dX8_requirePlace_1 (by decide) ?_
  refine vx_callv (vx_runS (As := [.int ta, .int (4 : Int32)]) (rest := []) ⟨hx, hb, hml, hown, hts⟩ (c_X8_requireIndex l hst dC dI cyI ta (4 : Int32)) (va_cwS 2 hts (gBS b_110 b_111 b_2 b_112) rfl rfl rfl (by decide +kernel) ⟨Nat.le_of_ble_eq_true rfl, Nat.le_of_ble_eq_true rfl⟩) (pre_s eX_ok he0 hS (hP.sub (ws' := []) [] rfl) (hK.sub (tys' := []) [] rfl)) rfl rfl hl.1 rfl (lv_room (Nat.le_of_ble_eq_true rfl)) dX8_requirePlace_2 ⟨Nat.le_of_ble_eq_true rfl, Nat.le_of_ble_eq_true rfl⟩) hS (fun _ _ h => h) (fun _ h => h) (fun _ _ h => h) (fun E9 ce9 q9 u9 t9 H locs ht9 hvm9 hpx9 hBX9 hz9 hk9 hS hce9 hcv9 hcl9 => vx_out (fun x h => (ht x h).elim) hlocks hce9 hcv9 hcl9 (fun t h1 h2 => ⟨(), trivial, ⟨hBX9.1, fun h => hBX9.2 h.1⟩, hS.F h1⟩) (fun z h => (hS.2.2 z h).elim) (Nat.le_of_ble_eq_true rfl) (Nat.le_of_ble_eq_true rfl)) (fun u9 t9 H locs ht9 hvm9 hok_1 hB9 hz9 hk9 hS => ?_)
  have hP : va_P (dC, dI) vwCl [] H := hP.kept (fun k q h => hk9 q.1 (hP k q h).lt (fun z => z))
  refine lv_iload_n hx hb dX8_requirePlace_5 rfl (lv_at hl 1 rfl) ?_
  refine lv_iconst (v := 4) hx hb dX8_requirePlace_6 (by decide) ?_
  refine vx_callv (vx_runS (As := [.int ro, .int (4 : Int32)]) (rest := []) ⟨hx, hb, hml, hown, hts⟩ (c_X8_requireIndex l hst dC dI cyI ro (4 : Int32)) (va_cwS 2 hts (gBS b_110 b_111 b_2 b_112) rfl rfl rfl (by decide +kernel) ⟨Nat.le_of_ble_eq_true rfl, Nat.le_of_ble_eq_true rfl⟩) (pre_s eX_ok he0 hS (hP.sub (ws' := []) [] rfl) (hK.sub (tys' := []) [] rfl)) rfl rfl hl.1 rfl (lv_room (Nat.le_of_ble_eq_true rfl)) dX8_requirePlace_7 ⟨Nat.le_of_ble_eq_true rfl, Nat.le_of_ble_eq_true rfl⟩) hS (fun _ _ h => h) (fun _ h => h) (fun _ _ h => h) (fun E9 ce9 q9 u9 t9 H locs ht9 hvm9 hpx9 hBX9 hz9 hk9 hS hce9 hcv9 hcl9 => vx_out (fun x h => (ht x h).elim) hlocks hce9 hcv9 hcl9 (fun t h1 h2 => ⟨(), trivial, ⟨hBX9.1, fun h => hBX9.2 h.2.1⟩, hS.F h1⟩) (fun z h => (hS.2.2 z h).elim) (Nat.le_of_ble_eq_true rfl) (Nat.le_of_ble_eq_true rfl)) (fun u9 t9 H locs ht9 hvm9 hok_2 hB9 hz9 hk9 hS => ?_)
  have hP : va_P (dC, dI) vwCl [] H := hP.kept (fun k q h => hk9 q.1 (hP k q h).lt (fun z => z))
  refine lv_iload_n hx hb dX8_requirePlace_10 rfl (lv_at hl 2 rfl) ?_
  refine lv_bipush (v := 6) hx hb dX8_requirePlace_11 (by decide) ?_
  refine vx_callv (vx_runS (As := [.int co, .int (6 : Int32)]) (rest := []) ⟨hx, hb, hml, hown, hts⟩ (c_X8_requireIndex l hst dC dI cyI co (6 : Int32)) (va_cwS 2 hts (gBS b_110 b_111 b_2 b_112) rfl rfl rfl (by decide +kernel) ⟨Nat.le_of_ble_eq_true rfl, Nat.le_of_ble_eq_true rfl⟩) (pre_s eX_ok he0 hS (hP.sub (ws' := []) [] rfl) (hK.sub (tys' := []) [] rfl)) rfl rfl hl.1 rfl (lv_room (Nat.le_of_ble_eq_true rfl)) dX8_requirePlace_13 ⟨Nat.le_of_ble_eq_true rfl, Nat.le_of_ble_eq_true rfl⟩) hS (fun _ _ h => h) (fun _ h => h) (fun _ _ h => h) (fun E9 ce9 q9 u9 t9 H locs ht9 hvm9 hpx9 hBX9 hz9 hk9 hS hce9 hcv9 hcl9 => vx_out (fun x h => (ht x h).elim) hlocks hce9 hcv9 hcl9 (fun t h1 h2 => ⟨(), trivial, ⟨hBX9.1, fun h => hBX9.2 h.2.2⟩, hS.F h1⟩) (fun z h => (hS.2.2 z h).elim) (Nat.le_of_ble_eq_true rfl) (Nat.le_of_ble_eq_true rfl)) (fun u9 t9 H locs ht9 hvm9 hok_3 hB9 hz9 hk9 hS => ?_)
  have hP : va_P (dC, dI) vwCl [] H := hP.kept (fun k q h => hk9 q.1 (hP k q h).lt (fun z => z))
  exact vx_ret (W.vret hx hb hr (fun t h9 hW => ⟨⟨(), rfl, ⟨hok_1, hok_2, hok_3⟩, trivial⟩, hS.F h9⟩) (fun q h => (hS.2.2 q h).elim) dX8_requirePlace_16)
set_option maxHeartbeats 1000000 in
set_option maxRecDepth 100000 in
theorem c_X8_requireSlew (l : Launch) (hst : l.stackTraces = false) (dC : Nat → ClassId) (dI : Nat → Nat → Nat) (cyI : ClassId) (sl : Int32) : vx_Met l yX8_requireSlew wqX8_requireSlew ({ frames := 7, cells := 1, slots := 6, locals := 104 } : Room) (va_Pc [.int sl] (pB (dC, dI) [] [] eX)) (va_Qv (fun _ : Unit => okA sl 0 3599) (fun _ _ => True) aF) (vx_X (fun _ : Unit => True) (fun E _ _ => E = nIA ∧ ¬ (okA sl 0 3599)) aF) 1 6 aF := by
  refine vx_ofW (cc := cX8_requireSlew) (maxL := 1) (ret := none) (by decide) rfl ?_
  intro p e s m args below meth c s₁ B hml ht hv
  obtain ⟨rfl, hP, hK, he⟩ := hv
  have hx := B.exec
  have hb := B.bytes
  have hr := B.returns
  have hts := atoms_spec (ws := wqX8_requireSlew) B.pre
  have hown : s.vm.findClass RX8 = some m.cls := findClass_of_methodNamed B.named
  have hlocks := B.notSynchronized
  have hS : va_S aF s.heap s.heap [] := va_S.rf
  have he0 := he
  have hP : va_P (dC, dI) vwCl [] s.heap := hP
  have hl := lv_entry ([.int sl] : List Value) (n := 1) (Nat.le_of_ble_eq_true rfl)
  rw [lg_entry_eq]
  generalize (lg_sl ([.int sl] : List Value) ++ List.replicate (1 - (lg_sl ([.int sl] : List Value)).length) Slot.unset).toArray = ls at hl ⊢
  have hl : lv_has ls 1 [(0, .int sl)] := hl
  have hE : True := trivial
  refine lv_iload_n hx hb dX8_requireSlew_0 rfl (lv_at hl 0 rfl) ?_
  refine lv_iconst (v := 0) hx hb dX8_requireSlew_1 (by decide) ?_
  refine lv_sipush (v := 3599) hx hb dX8_requireSlew_2 (by decide) ?_
  refine vx_callv (vx_runS (As := [.int sl, .int (0 : Int32), .int (3599 : Int32)]) (rest := []) ⟨hx, hb, hml, hown, hts⟩ (c_X8_requireArgument l hst dC dI cyI sl (0 : Int32) (3599 : Int32)) (va_cwS 3 hts (gBS b_115 b_116 b_2 b_117) rfl rfl rfl (by decide +kernel) ⟨Nat.le_of_ble_eq_true rfl, Nat.le_of_ble_eq_true rfl⟩) (pre_s eX_ok he0 hS (hP.sub (ws' := []) [] rfl) (hK.sub (tys' := []) [] rfl)) rfl rfl hl.1 rfl (lv_room (Nat.le_of_ble_eq_true rfl)) dX8_requireSlew_5 ⟨Nat.le_of_ble_eq_true rfl, Nat.le_of_ble_eq_true rfl⟩) hS (fun _ _ h => h) (fun _ h => h) (fun _ _ h => h) (fun E9 ce9 q9 u9 t9 H locs ht9 hvm9 hpx9 hBX9 hz9 hk9 hS hce9 hcv9 hcl9 => vx_out (fun x h => (ht x h).elim) hlocks hce9 hcv9 hcl9 (fun t h1 h2 => ⟨(), trivial, ⟨hBX9.1, fun h => hBX9.2 h⟩, hS.F h1⟩) (fun z h => (hS.2.2 z h).elim) (Nat.le_of_ble_eq_true rfl) (Nat.le_of_ble_eq_true rfl)) (fun u9 t9 H locs ht9 hvm9 hok_1 hB9 hz9 hk9 hS => ?_)
  have hP : va_P (dC, dI) vwCl [] H := hP.kept (fun k q h => hk9 q.1 (hP k q h).lt (fun z => z))
  exact vx_ret (W.vret hx hb hr (fun t h9 hW => ⟨⟨(), rfl, hok_1, trivial⟩, hS.F h9⟩) (fun q h => (hS.2.2 q h).elim) dX8_requireSlew_8)
set_option maxHeartbeats 1000000 in
set_option maxRecDepth 100000 in
theorem c_X8_requirePosition (l : Launch) (hst : l.stackTraces = false) (dC : Nat → ClassId) (dI : Nat → Nat → Nat) (cyI : ClassId) (le : Int32) (an : Int32) (sl : Int32) : vx_Met l yX8_requirePosition wqX8_requirePosition ({ frames := 8, cells := 3, slots := 18, locals := 124 } : Room) (va_Pc [.int le, .int an, .int sl] (pB (dC, dI) [] [] eX)) (va_Qv (fun _ : Unit => okA le 1000 6000 ∧ okA an 0 850 ∧ okA sl 0 3599) (fun _ _ => True) aF) (vx_X (fun _ : Unit => True) (fun E _ _ => E = nIA ∧ ¬ (okA le 1000 6000 ∧ okA an 0 850 ∧ okA sl 0 3599)) aF) 3 18 aF := by
  refine vx_ofW (cc := cX8_requirePosition) (maxL := 3) (ret := none) (by decide) rfl ?_
  intro p e s m args below meth c s₁ B hml ht hv
  obtain ⟨rfl, hP, hK, he⟩ := hv
  have hx := B.exec
  have hb := B.bytes
  have hr := B.returns
  have hts := atoms_spec (ws := wqX8_requirePosition) B.pre
  have hown : s.vm.findClass RX8 = some m.cls := findClass_of_methodNamed B.named
  have hlocks := B.notSynchronized
  have hS : va_S aF s.heap s.heap [] := va_S.rf
  have he0 := he
  have hP : va_P (dC, dI) vwCl [] s.heap := hP
  have hl := lv_entry ([.int le, .int an, .int sl] : List Value) (n := 3) (Nat.le_of_ble_eq_true rfl)
  rw [lg_entry_eq]
  generalize (lg_sl ([.int le, .int an, .int sl] : List Value) ++ List.replicate (3 - (lg_sl ([.int le, .int an, .int sl] : List Value)).length) Slot.unset).toArray = ls at hl ⊢
  have hl : lv_has ls 3 [(0, .int le), (1, .int an), (2, .int sl)] := hl
  have hE : True := trivial
  refine lv_iload_n hx hb dX8_requirePosition_0 rfl (lv_at hl 0 rfl) ?_
  refine lv_sipush (v := 1000) hx hb dX8_requirePosition_1 (by decide) ?_
  refine lv_sipush (v := 6000) hx hb dX8_requirePosition_4 (by decide) ?_
  refine vx_callv (vx_runS (As := [.int le, .int (1000 : Int32), .int (6000 : Int32)]) (rest := []) ⟨hx, hb, hml, hown, hts⟩ (c_X8_requireArgument l hst dC dI cyI le (1000 : Int32) (6000 : Int32)) (va_cwS 3 hts (gBS b_115 b_116 b_2 b_117) rfl rfl rfl (by decide +kernel) ⟨Nat.le_of_ble_eq_true rfl, Nat.le_of_ble_eq_true rfl⟩) (pre_s eX_ok he0 hS (hP.sub (ws' := []) [] rfl) (hK.sub (tys' := []) [] rfl)) rfl rfl hl.1 rfl (lv_room (Nat.le_of_ble_eq_true rfl)) dX8_requirePosition_7 ⟨Nat.le_of_ble_eq_true rfl, Nat.le_of_ble_eq_true rfl⟩) hS (fun _ _ h => h) (fun _ h => h) (fun _ _ h => h) (fun E9 ce9 q9 u9 t9 H locs ht9 hvm9 hpx9 hBX9 hz9 hk9 hS hce9 hcv9 hcl9 => vx_out (fun x h => (ht x h).elim) hlocks hce9 hcv9 hcl9 (fun t h1 h2 => ⟨(), trivial, ⟨hBX9.1, fun h => hBX9.2 h.1⟩, hS.F h1⟩) (fun z h => (hS.2.2 z h).elim) (Nat.le_of_ble_eq_true rfl) (Nat.le_of_ble_eq_true rfl)) (fun u9 t9 H locs ht9 hvm9 hok_1 hB9 hz9 hk9 hS => ?_)
  have hP : va_P (dC, dI) vwCl [] H := hP.kept (fun k q h => hk9 q.1 (hP k q h).lt (fun z => z))
  refine lv_iload_n hx hb dX8_requirePosition_10 rfl (lv_at hl 1 rfl) ?_
  refine lv_iconst (v := 0) hx hb dX8_requirePosition_11 (by decide) ?_
  refine lv_sipush (v := 850) hx hb dX8_requirePosition_12 (by decide) ?_
  refine vx_callv (vx_runS (As := [.int an, .int (0 : Int32), .int (850 : Int32)]) (rest := []) ⟨hx, hb, hml, hown, hts⟩ (c_X8_requireArgument l hst dC dI cyI an (0 : Int32) (850 : Int32)) (va_cwS 3 hts (gBS b_115 b_116 b_2 b_117) rfl rfl rfl (by decide +kernel) ⟨Nat.le_of_ble_eq_true rfl, Nat.le_of_ble_eq_true rfl⟩) (pre_s eX_ok he0 hS (hP.sub (ws' := []) [] rfl) (hK.sub (tys' := []) [] rfl)) rfl rfl hl.1 rfl (lv_room (Nat.le_of_ble_eq_true rfl)) dX8_requirePosition_15 ⟨Nat.le_of_ble_eq_true rfl, Nat.le_of_ble_eq_true rfl⟩) hS (fun _ _ h => h) (fun _ h => h) (fun _ _ h => h) (fun E9 ce9 q9 u9 t9 H locs ht9 hvm9 hpx9 hBX9 hz9 hk9 hS hce9 hcv9 hcl9 => vx_out (fun x h => (ht x h).elim) hlocks hce9 hcv9 hcl9 (fun t h1 h2 => ⟨(), trivial, ⟨hBX9.1, fun h => hBX9.2 h.2.1⟩, hS.F h1⟩) (fun z h => (hS.2.2 z h).elim) (Nat.le_of_ble_eq_true rfl) (Nat.le_of_ble_eq_true rfl)) (fun u9 t9 H locs ht9 hvm9 hok_2 hB9 hz9 hk9 hS => ?_)
  have hP : va_P (dC, dI) vwCl [] H := hP.kept (fun k q h => hk9 q.1 (hP k q h).lt (fun z => z))
  refine lv_iload_n hx hb dX8_requirePosition_18 rfl (lv_at hl 2 rfl) ?_
  refine vx_callv (vx_runS (As := [.int sl]) (rest := []) ⟨hx, hb, hml, hown, hts⟩ (c_X8_requireSlew l hst dC dI cyI sl) (va_cwS 1 hts (gBS b_299 b_300 b_2 b_301) rfl rfl rfl (by decide +kernel) ⟨Nat.le_of_ble_eq_true rfl, Nat.le_of_ble_eq_true rfl⟩) (pre_s eX_ok he0 hS (hP.sub (ws' := []) [] rfl) (hK.sub (tys' := []) [] rfl)) rfl rfl hl.1 rfl (lv_room (Nat.le_of_ble_eq_true rfl)) dX8_requirePosition_19 ⟨Nat.le_of_ble_eq_true rfl, Nat.le_of_ble_eq_true rfl⟩) hS (fun _ _ h => h) (fun _ h => h) (fun _ _ h => h) (fun E9 ce9 q9 u9 t9 H locs ht9 hvm9 hpx9 hBX9 hz9 hk9 hS hce9 hcv9 hcl9 => vx_out (fun x h => (ht x h).elim) hlocks hce9 hcv9 hcl9 (fun t h1 h2 => ⟨(), trivial, ⟨hBX9.1, fun h => hBX9.2 h.2.2⟩, hS.F h1⟩) (fun z h => (hS.2.2 z h).elim) (Nat.le_of_ble_eq_true rfl) (Nat.le_of_ble_eq_true rfl)) (fun u9 t9 H locs ht9 hvm9 hok_3 hB9 hz9 hk9 hS => ?_)
  have hP : va_P (dC, dI) vwCl [] H := hP.kept (fun k q h => hk9 q.1 (hP k q h).lt (fun z => z))
  exact vx_ret (W.vret hx hb hr (fun t h9 hW => ⟨⟨(), rfl, ⟨hok_1, hok_2, hok_3⟩, trivial⟩, hS.F h9⟩) (fun q h => (hS.2.2 q h).elim) dX8_requirePosition_22)

