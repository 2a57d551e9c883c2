def m_greater (a : Int32) (b : Int32) : Int32 :=
  if a ≤ b then b else a
set_option maxHeartbeats 1000000 in
set_option maxRecDepth 100000 in
theorem c_X9_greater (l : Launch) (dC : Nat → ClassId) (dI : Nat → Nat → Nat) (cyI : ClassId) (a : Int32) (b : Int32) : Met l yX9_greater wqX9_greater ({ frames := 0, cells := 0, slots := 0, locals := 0 } : Room) (va_Pc [.int a, .int b] (pB (dC, dI) [] [] eM)) (vp_Si (fun r => r = (m_greater a b))) 0 0 aF := by
  refine Met.ofW (cc := cX9_greater) (maxL := 2) (ret := (some .int)) (by decide) rfl ?_
  intro p e s m args below meth c s₁ B hml hv
  obtain ⟨rfl, hP, hK, he⟩ := hv
  have hx := B.exec
  have hb := B.bytes
  have hr := B.returns
  have hts := atoms_spec (ws := wqX9_greater) B.pre
  have hown : s.vm.findClass RX9 = some m.cls := findClass_of_methodNamed B.named
  have hlocks := B.notSynchronized
  have hS : va_S aF s.heap s.heap [] := va_S.rf
  have hP : va_P (dC, dI) vwCl [] s.heap := hP
  have hl := lv_entry ([.int a, .int b] : List Value) (n := 2) (Nat.le_of_ble_eq_true rfl)
  rw [lg_entry_eq]
  generalize (lg_sl ([.int a, .int b] : List Value) ++ List.replicate (2 - (lg_sl ([.int a, .int b] : List Value)).length) Slot.unset).toArray = ls at hl ⊢
  have hl : lv_has ls 2 [(0, .int a), (1, .int b)] := hl
  have hE : m_greater a b = m_greater a b := rfl
  refine lv_iload_n hx hb dX9_greater_0 rfl (lv_at hl 0 rfl) ?_
  refine lv_iload_n hx hb dX9_greater_1 rfl (lv_at hl 1 rfl) ?_
  refine lv_icmp_le (tgt := 9) hx hb dX9_greater_2 (by decide) (fun c_1 => ?_) (fun c_1 => ?_)
  ·
    have hE := hE.trans (if_pos c_1)
    refine lv_iload_n hx hb dX9_greater_9 rfl (lv_at hl 1 rfl) ?_
    exact W.iret (v := b) hx hb hr (fun t ht hW => ⟨_, rfl, hE.symm, ht⟩) (fun q h => by cases h) dX9_greater_10
  ·
    have hE := hE.trans (if_neg c_1)
    refine lv_iload_n hx hb dX9_greater_5 rfl (lv_at hl 0 rfl) ?_
    refine lv_goto (tgt := 10) hx hb dX9_greater_6 (by decide) ?_
    exact W.iret (v := a) hx hb hr (fun t ht hW => ⟨_, rfl, hE.symm, ht⟩) (fun q h => by cases h) dX9_greater_10
def m_lesser (a : Int32) (b : Int32) : Int32 :=
  if b ≤ a then b else a
set_option maxHeartbeats 1000000 in
set_option maxRecDepth 100000 in
theorem c_X9_lesser (l : Launch) (dC : Nat → ClassId) (dI : Nat → Nat → Nat) (cyI : ClassId) (a : Int32) (b : Int32) : Met l yX9_lesser wqX9_lesser ({ frames := 0, cells := 0, slots := 0, locals := 0 } : Room) (va_Pc [.int a, .int b] (pB (dC, dI) [] [] eM)) (vp_Si (fun r => r = (m_lesser a b))) 0 0 aF := by
  refine Met.ofW (cc := cX9_lesser) (maxL := 2) (ret := (some .int)) (by decide) rfl ?_
  intro p e s m args below meth c s₁ B hml hv
  obtain ⟨rfl, hP, hK, he⟩ := hv
  have hx := B.exec
  have hb := B.bytes
  have hr := B.returns
  have hts := atoms_spec (ws := wqX9_lesser) B.pre
  have hown : s.vm.findClass RX9 = some m.cls := findClass_of_methodNamed B.named
  have hlocks := B.notSynchronized
  have hS : va_S aF s.heap s.heap [] := va_S.rf
  have hP : va_P (dC, dI) vwCl [] s.heap := hP
  have hl := lv_entry ([.int a, .int b] : List Value) (n := 2) (Nat.le_of_ble_eq_true rfl)
  rw [lg_entry_eq]
  generalize (lg_sl ([.int a, .int b] : List Value) ++ List.replicate (2 - (lg_sl ([.int a, .int b] : List Value)).length) Slot.unset).toArray = ls at hl ⊢
  have hl : lv_has ls 2 [(0, .int a), (1, .int b)] := hl
  have hE : m_lesser a b = m_lesser a b := rfl
  refine lv_iload_n hx hb dX9_lesser_0 rfl (lv_at hl 0 rfl) ?_
  refine lv_iload_n hx hb dX9_lesser_1 rfl (lv_at hl 1 rfl) ?_
  refine lv_icmp_ge (tgt := 9) hx hb dX9_lesser_2 (by decide) (fun c_1 => ?_) (fun c_1 => ?_)
  ·
    have hE := hE.trans (if_pos c_1)
    refine lv_iload_n hx hb dX9_lesser_9 rfl (lv_at hl 1 rfl) ?_
    exact W.iret (v := b) hx hb hr (fun t ht hW => ⟨_, rfl, hE.symm, ht⟩) (fun q h => by cases h) dX9_lesser_10
  ·
    have hE := hE.trans (if_neg c_1)
    refine lv_iload_n hx hb dX9_lesser_5 rfl (lv_at hl 0 rfl) ?_
    refine lv_goto (tgt := 10) hx hb dX9_lesser_6 (by decide) ?_
    exact W.iret (v := a) hx hb hr (fun t ht hW => ⟨_, rfl, hE.symm, ht⟩) (fun q h => by cases h) dX9_lesser_10
def m_in (v : Int32) (lo : Int32) (hi : Int32) : Int32 :=
  if v < lo then (0 : Int32) else (if hi < v then (0 : Int32) else (1 : Int32))
set_option maxHeartbeats 1000000 in
set_option maxRecDepth 100000 in
theorem c_X9_in (l : Launch) (dC : Nat → ClassId) (dI : Nat → Nat → Nat) (cyI : ClassId) (v : Int32) (lo : Int32) (hi : Int32) : Met l yX9_in wqX9_in ({ frames := 0, cells := 0, slots := 0, locals := 0 } : Room) (va_Pc [.int v, .int lo, .int hi] (pB (dC, dI) [] [] eM)) (vp_Si (fun r => r = (m_in v lo hi) ∧ (r = 0 ∨ r = 1))) 0 0 aF := by
  refine Met.ofW (cc := cX9_in) (maxL := 3) (ret := (some .boolean)) (by decide) rfl ?_
  intro p e s m args below meth c s₁ B hml hv
  obtain ⟨rfl, hP, hK, he⟩ := hv
  have hx := B.exec
  have hb := B.bytes
  have hr := B.returns
  have hts := atoms_spec (ws := wqX9_in) B.pre
  have hown : s.vm.findClass RX9 = some m.cls := findClass_of_methodNamed B.named
  have hlocks := B.notSynchronized
  have hS : va_S aF s.heap s.heap [] := va_S.rf
  have hP : va_P (dC, dI) vwCl [] s.heap := hP
  have hl := lv_entry ([.int v, .int lo, .int hi] : List Value) (n := 3) (Nat.le_of_ble_eq_true rfl)
  rw [lg_entry_eq]
  generalize (lg_sl ([.int v, .int lo, .int hi] : List Value) ++ List.replicate (3 - (lg_sl ([.int v, .int lo, .int hi] : List Value)).length) Slot.unset).toArray = ls at hl ⊢
  have hl : lv_has ls 3 [(0, .int v), (1, .int lo), (2, .int hi)] := hl
  have hE : m_in v lo hi = m_in v lo hi := rfl
  refine lv_iload_n hx hb dX9_in_0 rfl (lv_at hl 0 rfl) ?_
  refine lv_iload_n hx hb dX9_in_1 rfl (lv_at hl 1 rfl) ?_
  refine lv_icmp_lt (tgt := 14) hx hb dX9_in_2 (by decide) (fun c_1 => ?_) (fun c_1 => ?_)
  ·
    have hE := hE.trans (if_pos c_1)
    refine lv_iconst (v := 0) hx hb dX9_in_14 (by decide) ?_
    exact W.zret (v := (0 : Int32)) hx hb hr rfl (fun t ht hW => ⟨_, rfl, ⟨hE.symm, (by decide)⟩, ht⟩) (fun q h => by cases h) dX9_in_15
  ·
    have hE := hE.trans (if_neg c_1)
    refine lv_iload_n hx hb dX9_in_5 rfl (lv_at hl 0 rfl) ?_
    refine lv_iload_n hx hb dX9_in_6 rfl (lv_at hl 2 rfl) ?_
    refine lv_icmp_gt (tgt := 14) hx hb dX9_in_7 (by decide) (fun c_2 => ?_) (fun c_2 => ?_)
    ·
      have hE := hE.trans (if_pos c_2)
      refine lv_iconst (v := 0) hx hb dX9_in_14 (by decide) ?_
      exact W.zret (v := (0 : Int32)) hx hb hr rfl (fun t ht hW => ⟨_, rfl, ⟨hE.symm, (by decide)⟩, ht⟩) (fun q h => by cases h) dX9_in_15
    ·
      have hE := hE.trans (if_neg c_2)
      refine lv_iconst (v := 1) hx hb dX9_in_10 (by decide) ?_
      refine lv_goto (tgt := 15) hx hb dX9_in_11 (by decide) ?_
      exact W.zret (v := (1 : Int32)) hx hb hr rfl (fun t ht hW => ⟨_, rfl, ⟨hE.symm, (by decide)⟩, ht⟩) (fun q h => by cases h) dX9_in_15
def m_cosineAt (k : Int32) : Int32 :=
  if k = 0 then (10000 : Int32) else (if k = 1 then (9848 : Int32) else (if k = 2 then (9397 : Int32) else (if k = 3 then (8660 : Int32) else (if k = 4 then (7660 : Int32) else (if k = 5 then (6428 : Int32) else (if k = 6 then (5000 : Int32) else (if k = 7 then (3420 : Int32) else (if k = 8 then (1736 : Int32) else (0 : Int32)))))))))
set_option maxHeartbeats 1000000 in
set_option maxRecDepth 100000 in
theorem c_X9_cosineAt (l : Launch) (dC : Nat → ClassId) (dI : Nat → Nat → Nat) (cyI : ClassId) (k : Int32) : Met l yX9_cosineAt wqX9_cosineAt ({ frames := 0, cells := 0, slots := 0, locals := 0 } : Room) (va_Pc [.int k] (pB (dC, dI) [] [] eM)) (vp_Si (fun r => r = (m_cosineAt k))) 0 0 aF := by
  refine Met.ofW (cc := cX9_cosineAt) (maxL := 1) (ret := (some .int)) (by decide) rfl ?_
  intro p e s m args below meth c s₁ B hml hv
  obtain ⟨rfl, hP, hK, he⟩ := hv
  have hx := B.exec
  have hb := B.bytes
  have hr := B.returns
  have hts := atoms_spec (ws := wqX9_cosineAt) B.pre
  have hown : s.vm.findClass RX9 = some m.cls := findClass_of_methodNamed B.named
  have hlocks := B.notSynchronized
  have hS : va_S aF s.heap s.heap [] := va_S.rf
  have hP : va_P (dC, dI) vwCl [] s.heap := hP
  have hl := lv_entry ([.int k] : List Value) (n := 1) (Nat.le_of_ble_eq_true rfl)
  rw [lg_entry_eq]
  generalize (lg_sl ([.int k] : List Value) ++ List.replicate (1 - (lg_sl ([.int k] : List Value)).length) Slot.unset).toArray = ls at hl ⊢
  have hl : lv_has ls 1 [(0, .int k)] := hl
  have hE : m_cosineAt k = m_cosineAt k := rfl
  refine lv_iload_n hx hb dX9_cosineAt_0 rfl (lv_at hl 0 rfl) ?_
  by_cases c_1 : k = 0
  ·
    have hE := hE.trans (if_pos c_1)
    refine lv_tableIn (tgt := 52) (off := 51) hx hb dX9_cosineAt_1 (by rw [c_1]; decide) (by rw [c_1]; decide) (by rw [c_1]; rfl) (by decide) ?_
    refine lv_sipush (v := 10000) hx hb dX9_cosineAt_52 (by decide) ?_
    exact W.iret (v := (10000 : Int32)) hx hb hr (fun t ht hW => ⟨_, rfl, hE.symm, ht⟩) (fun q h => by cases h) dX9_cosineAt_55
  ·
    have hE := hE.trans (if_neg c_1)
    by_cases c_2 : k = 1
    ·
      have hE := hE.trans (if_pos c_2)
      refine lv_tableIn (tgt := 56) (off := 55) hx hb dX9_cosineAt_1 (by rw [c_2]; decide) (by rw [c_2]; decide) (by rw [c_2]; rfl) (by decide) ?_
      refine lv_sipush (v := 9848) hx hb dX9_cosineAt_56 (by decide) ?_
      exact W.iret (v := (9848 : Int32)) hx hb hr (fun t ht hW => ⟨_, rfl, hE.symm, ht⟩) (fun q h => by cases h) dX9_cosineAt_59
    ·
      have hE := hE.trans (if_neg c_2)
      by_cases c_3 : k = 2
      ·
        have hE := hE.trans (if_pos c_3)
        refine lv_tableIn (tgt := 60) (off := 59) hx hb dX9_cosineAt_1 (by rw [c_3]; decide) (by rw [c_3]; decide) (by rw [c_3]; rfl) (by decide) ?_
        refine lv_sipush (v := 9397) hx hb dX9_cosineAt_60 (by decide) ?_
        exact W.iret (v := (9397 : Int32)) hx hb hr (fun t ht hW => ⟨_, rfl, hE.symm, ht⟩) (fun q h => by cases h) dX9_cosineAt_63
      ·
        have hE := hE.trans (if_neg c_3)
        by_cases c_4 : k = 3
        ·
          have hE := hE.trans (if_pos c_4)
          refine lv_tableIn (tgt := 64) (off := 63) hx hb dX9_cosineAt_1 (by rw [c_4]; decide) (by rw [c_4]; decide) (by rw [c_4]; rfl) (by decide) ?_
          refine lv_sipush (v := 8660) hx hb dX9_cosineAt_64 (by decide) ?_
          exact W.iret (v := (8660 : Int32)) hx hb hr (fun t ht hW => ⟨_, rfl, hE.symm, ht⟩) (fun q h => by cases h) dX9_cosineAt_67
        ·
          have hE := hE.trans (if_neg c_4)
          by_cases c_5 : k = 4
          ·
            have hE := hE.trans (if_pos c_5)
            refine lv_tableIn (tgt := 68) (off := 67) hx hb dX9_cosineAt_1 (by rw [c_5]; decide) (by rw [c_5]; decide) (by rw [c_5]; rfl) (by decide) ?_
            refine lv_sipush (v := 7660) hx hb dX9_cosineAt_68 (by decide) ?_
            exact W.iret (v := (7660 : Int32)) hx hb hr (fun t ht hW => ⟨_, rfl, hE.symm, ht⟩) (fun q h => by cases h) dX9_cosineAt_71
          ·
            have hE := hE.trans (if_neg c_5)
            by_cases c_6 : k = 5
            ·
              have hE := hE.trans (if_pos c_6)
              refine lv_tableIn (tgt := 72) (off := 71) hx hb dX9_cosineAt_1 (by rw [c_6]; decide) (by rw [c_6]; decide) (by rw [c_6]; rfl) (by decide) ?_
              refine lv_sipush (v := 6428) hx hb dX9_cosineAt_72 (by decide) ?_
              exact W.iret (v := (6428 : Int32)) hx hb hr (fun t ht hW => ⟨_, rfl, hE.symm, ht⟩) (fun q h => by cases h) dX9_cosineAt_75
            ·
              have hE := hE.trans (if_neg c_6)
              by_cases c_7 : k = 6
              ·
                have hE := hE.trans (if_pos c_7)
                refine lv_tableIn (tgt := 76) (off := 75) hx hb dX9_cosineAt_1 (by rw [c_7]; decide) (by rw [c_7]; decide) (by rw [c_7]; rfl) (by decide) ?_
                refine lv_sipush (v := 5000) hx hb dX9_cosineAt_76 (by decide) ?_
                exact W.iret (v := (5000 : Int32)) hx hb hr (fun t ht hW => ⟨_, rfl, hE.symm, ht⟩) (fun q h => by cases h) dX9_cosineAt_79
              ·
                have hE := hE.trans (if_neg c_7)
                by_cases c_8 : k = 7
                ·
                  have hE := hE.trans (if_pos c_8)
                  refine lv_tableIn (tgt := 80) (off := 79) hx hb dX9_cosineAt_1 (by rw [c_8]; decide) (by rw [c_8]; decide) (by rw [c_8]; rfl) (by decide) ?_
                  refine lv_sipush (v := 3420) hx hb dX9_cosineAt_80 (by decide) ?_
                  exact W.iret (v := (3420 : Int32)) hx hb hr (fun t ht hW => ⟨_, rfl, hE.symm, ht⟩) (fun q h => by cases h) dX9_cosineAt_83
                ·
                  have hE := hE.trans (if_neg c_8)
                  by_cases c_9 : k = 8
                  ·
                    have hE := hE.trans (if_pos c_9)
                    refine lv_tableIn (tgt := 84) (off := 83) hx hb dX9_cosineAt_1 (by rw [c_9]; decide) (by rw [c_9]; decide) (by rw [c_9]; rfl) (by decide) ?_
                    refine lv_sipush (v := 1736) hx hb dX9_cosineAt_84 (by decide) ?_
                    exact W.iret (v := (1736 : Int32)) hx hb hr (fun t ht hW => ⟨_, rfl, hE.symm, ht⟩) (fun q h => by cases h) dX9_cosineAt_87
                  ·
                    have hE := hE.trans (if_neg c_9)
                    refine lv_tableOut (tgt := 88) hx hb dX9_cosineAt_1 (by
                        have n_c_1 : ¬ (k).toInt = 0 := lv_neT c_1 rfl
                        have n_c_2 : ¬ (k).toInt = 1 := lv_neT c_2 rfl
                        have n_c_3 : ¬ (k).toInt = 2 := lv_neT c_3 rfl
                        have n_c_4 : ¬ (k).toInt = 3 := lv_neT c_4 rfl
                        have n_c_5 : ¬ (k).toInt = 4 := lv_neT c_5 rfl
                        have n_c_6 : ¬ (k).toInt = 5 := lv_neT c_6 rfl
                        have n_c_7 : ¬ (k).toInt = 6 := lv_neT c_7 rfl
                        have n_c_8 : ¬ (k).toInt = 7 := lv_neT c_8 rfl
                        have n_c_9 : ¬ (k).toInt = 8 := lv_neT c_9 rfl
                        omega) (by decide) ?_
                    refine lv_iconst (v := 0) hx hb dX9_cosineAt_88 (by decide) ?_
                    exact W.iret (v := (0 : Int32)) hx hb hr (fun t ht hW => ⟨_, rfl, hE.symm, ht⟩) (fun q h => by cases h) dX9_cosineAt_89
def m_cosine (a : Int32) : Int32 :=
  spLet ((a / (100 : Int32))) (fun x_1 => spLet (m_cosineAt x_1) (fun r_2 => spLet (m_cosineAt (x_1 + (1 : Int32))) (fun r_3 => spLet ((r_2 - r_3)) (fun x_4 => spLet (m_cosineAt x_1) (fun r_5 => (r_5 - ((x_4 * (a - a / (100 : Int32) * (100 : Int32))) / (100 : Int32))))))))
set_option maxHeartbeats 1000000 in
set_option maxRecDepth 100000 in
theorem c_X9_cosine (l : Launch) (dC : Nat → ClassId) (dI : Nat → Nat → Nat) (cyI : ClassId) (a : Int32) : Met l yX9_cosine wqX9_cosine ({ frames := 1, cells := 0, slots := 0, locals := 20 } : Room) (va_Pc [.int a] (pB (dC, dI) [] [] eM)) (vp_Si (fun r => r = (m_cosine a))) 0 0 aF := by
  refine Met.ofW (cc := cX9_cosine) (maxL := 3) (ret := (some .int)) (by decide) rfl ?_
  intro p e s m args below meth c s₁ B hml hv
  obtain ⟨rfl, hP, hK, he⟩ := hv
  have hx := B.exec
  have hb := B.bytes
  have hr := B.returns
  have hts := atoms_spec (ws := wqX9_cosine) B.pre
  have hown : s.vm.findClass RX9 = some m.cls := findClass_of_methodNamed B.named
  have hlocks := B.notSynchronized
  have hS : va_S aF s.heap s.heap [] := va_S.rf
  have hP : va_P (dC, dI) vwCl [] s.heap := hP
  have hl := lv_entry ([.int a] : List Value) (n := 3) (Nat.le_of_ble_eq_true rfl)
  rw [lg_entry_eq]
  generalize (lg_sl ([.int a] : List Value) ++ List.replicate (3 - (lg_sl ([.int a] : List Value)).length) Slot.unset).toArray = ls at hl ⊢
  have hl : lv_has ls 3 [(0, .int a)] := hl
  have hE : m_cosine a = m_cosine a := rfl
  refine lv_iload_n hx hb dX9_cosine_0 rfl (lv_at hl 0 rfl) ?_
  refine lv_bipush (v := 100) hx hb dX9_cosine_1 (by decide) ?_
  refine lv_idiv hx hb dX9_cosine_3 (by decide) ?_
  refine lv_topi (fun x_1 ex_1 => ?_)
  have hE := hE.trans (spLet_eq ex_1)
  refine lv_istore_n (lv' := [(1, .int x_1), (0, .int a)]) hx hb dX9_cosine_4 rfl hl (by decide) rfl (fun ls hl => ?_)
  refine lv_iload_n hx hb dX9_cosine_5 rfl (lv_at hl 0 rfl) ?_
  refine vp_callSi (W.runS (As := [.int x_1]) (rest := []) ⟨hx, hb, hml, hown, hts⟩ (c_X9_cosineAt l dC dI cyI x_1) (va_cwS 1 hts (gBS b_390 b_391 b_5 b_392) rfl rfl rfl (by decide +kernel) ⟨Nat.le_of_ble_eq_true rfl, Nat.le_of_ble_eq_true rfl⟩) (pre_s eM_ok he hS hP hK) rfl rfl hl.1 rfl (lv_room (Nat.le_of_ble_eq_true rfl)) dX9_cosine_6 ⟨Nat.zero_le _, Nat.zero_le _⟩) (fun r_2 hr_2 => ?_)
  have hE := hE.trans (spLet_eq hr_2)
  refine lv_iload_n hx hb dX9_cosine_9 rfl (lv_at hl 0 rfl) ?_
  refine lv_iconst (v := 1) hx hb dX9_cosine_10 (by decide) ?_
  refine lv_iadd hx hb dX9_cosine_11 ?_
  refine vp_callSi (W.runS (As := [.int (x_1 + (1 : Int32))]) (rest := [.int r_2]) ⟨hx, hb, hml, hown, hts⟩ (c_X9_cosineAt l dC dI cyI (x_1 + (1 : Int32))) (va_cwS 1 hts (gBS b_390 b_391 b_5 b_392) rfl rfl rfl (by decide +kernel) ⟨Nat.le_of_ble_eq_true rfl, Nat.le_of_ble_eq_true rfl⟩) (pre_s eM_ok he hS hP hK) rfl rfl hl.1 rfl (lv_room (Nat.le_of_ble_eq_true rfl)) dX9_cosine_12 ⟨Nat.zero_le _, Nat.zero_le _⟩) (fun r_3 hr_3 => ?_)
  have hE := hE.trans (spLet_eq hr_3)
  refine lv_isub hx hb dX9_cosine_15 ?_
  refine lv_topi (fun x_4 ex_4 => ?_)
  have hE := hE.trans (spLet_eq ex_4)
  refine lv_istore_n (lv' := [(2, .int x_4), (1, .int x_1), (0, .int a)]) hx hb dX9_cosine_16 rfl hl (by decide) rfl (fun ls hl => ?_)
  refine lv_iload_n hx hb dX9_cosine_17 rfl (lv_at hl 1 rfl) ?_
  refine vp_callSi (W.runS (As := [.int x_1]) (rest := []) ⟨hx, hb, hml, hown, hts⟩ (c_X9_cosineAt l dC dI cyI x_1) (va_cwS 1 hts (gBS b_390 b_391 b_5 b_392) rfl rfl rfl (by decide +kernel) ⟨Nat.le_of_ble_eq_true rfl, Nat.le_of_ble_eq_true rfl⟩) (pre_s eM_ok he hS hP hK) rfl rfl hl.1 rfl (lv_room (Nat.le_of_ble_eq_true rfl)) dX9_cosine_18 ⟨Nat.zero_le _, Nat.zero_le _⟩) (fun r_5 hr_5 => ?_)
  have hE := hE.trans (spLet_eq hr_5)
  refine lv_iload_n hx hb dX9_cosine_21 rfl (lv_at hl 0 rfl) ?_
  refine lv_iload_n hx hb dX9_cosine_22 rfl (lv_at hl 2 rfl) ?_
  refine lv_bipush (v := 100) hx hb dX9_cosine_23 (by decide) ?_
  refine lv_irem hx hb dX9_cosine_25 (by decide) ?_
  refine lv_imul hx hb dX9_cosine_26 ?_
  refine lv_bipush (v := 100) hx hb dX9_cosine_27 (by decide) ?_
  refine lv_idiv hx hb dX9_cosine_29 (by decide) ?_
  refine lv_isub hx hb dX9_cosine_30 ?_
  exact W.iret (v := (r_5 - ((x_4 * (a - a / (100 : Int32) * (100 : Int32))) / (100 : Int32)))) hx hb hr (fun t ht hW => ⟨_, rfl, hE.symm, ht⟩) (fun q h => by cases h) dX9_cosine_31
def m_radiusOf (le : Int32) (an : Int32) : Int32 :=
  spLet (m_cosine an) (fun r_1 => spLet (m_greater (100 : Int32) (((le * r_1) / (10000 : Int32)) - (150 : Int32))) (fun r_2 => r_2))
set_option maxHeartbeats 1000000 in
set_option maxRecDepth 100000 in
theorem c_X9_radiusOf (l : Launch) (dC : Nat → ClassId) (dI : Nat → Nat → Nat) (cyI : ClassId) (le : Int32) (an : Int32) : Met l yX9_radiusOf wqX9_radiusOf ({ frames := 2, cells := 0, slots := 0, locals := 42 } : Room) (va_Pc [.int le, .int an] (pB (dC, dI) [] [] eM)) (vp_Si (fun r => r = (m_radiusOf le an))) 0 0 aF := by
  refine Met.ofW (cc := cX9_radiusOf) (maxL := 2) (ret := (some .int)) (by decide) rfl ?_
  intro p e s m args below meth c s₁ B hml hv
  obtain ⟨rfl, hP, hK, he⟩ := hv
  have hx := B.exec
  have hb := B.bytes
  have hr := B.returns
  have hts := atoms_spec (ws := wqX9_radiusOf) B.pre
  have hown : s.vm.findClass RX9 = some m.cls := findClass_of_methodNamed B.named
  have hlocks := B.notSynchronized
  have hS : va_S aF s.heap s.heap [] := va_S.rf
  have hP : va_P (dC, dI) vwCl [] s.heap := hP
  have hl := lv_entry ([.int le, .int an] : List Value) (n := 2) (Nat.le_of_ble_eq_true rfl)
  rw [lg_entry_eq]
  generalize (lg_sl ([.int le, .int an] : List Value) ++ List.replicate (2 - (lg_sl ([.int le, .int an] : List Value)).length) Slot.unset).toArray = ls at hl ⊢
  have hl : lv_has ls 2 [(0, .int le), (1, .int an)] := hl
  have hE : m_radiusOf le an = m_radiusOf le an := rfl
  refine lv_bipush (v := 100) hx hb dX9_radiusOf_0 (by decide) ?_
  refine lv_iload_n hx hb dX9_radiusOf_2 rfl (lv_at hl 0 rfl) ?_
  refine lv_iload_n hx hb dX9_radiusOf_3 rfl (lv_at hl 1 rfl) ?_
  refine vp_callSi (W.runS (As := [.int an]) (rest := [.int le, .int (100 : Int32)]) ⟨hx, hb, hml, hown, hts⟩ (c_X9_cosine l dC dI cyI an) (va_cwS 1 hts (gBS b_387 b_388 b_5 b_389) rfl rfl rfl (by decide +kernel) ⟨Nat.le_of_ble_eq_true rfl, Nat.le_of_ble_eq_true rfl⟩) (pre_s eM_ok he hS hP hK) rfl rfl hl.1 rfl (lv_room (Nat.le_of_ble_eq_true rfl)) dX9_radiusOf_4 ⟨Nat.zero_le _, Nat.zero_le _⟩) (fun r_1 hr_1 => ?_)
  have hE := hE.trans (spLet_eq hr_1)
  refine lv_imul hx hb dX9_radiusOf_7 ?_
  refine lv_sipush (v := 10000) hx hb dX9_radiusOf_8 (by decide) ?_
  refine lv_idiv hx hb dX9_radiusOf_11 (by decide) ?_
  refine lv_sipush (v := 150) hx hb dX9_radiusOf_12 (by decide) ?_
  refine lv_isub hx hb dX9_radiusOf_15 ?_
  refine vp_callSi (W.runS (As := [.int (100 : Int32), .int (((le * r_1) / (10000 : Int32)) - (150 : Int32))]) (rest := []) ⟨hx, hb, hml, hown, hts⟩ (c_X9_greater l dC dI cyI (100 : Int32) (((le * r_1) / (10000 : Int32)) - (150 : Int32))) (va_cwS 2 hts (gBS b_393 b_394 b_5 b_395) rfl rfl rfl (by decide +kernel) ⟨Nat.le_of_ble_eq_true rfl, Nat.le_of_ble_eq_true rfl⟩) (pre_s eM_ok he hS hP hK) rfl rfl hl.1 rfl (lv_room (Nat.le_of_ble_eq_true rfl)) dX9_radiusOf_16 ⟨Nat.zero_le _, Nat.zero_le _⟩) (fun r_2 hr_2 => ?_)
  have hE := hE.trans (spLet_eq hr_2)
  exact W.iret (v := r_2) hx hb hr (fun t ht hW => ⟨_, rfl, hE.symm, ht⟩) (fun q h => by cases h) dX9_radiusOf_19
def m_heightOf (le : Int32) (an : Int32) : Int32 :=
  spLet (m_cosine ((900 : Int32) - an)) (fun r_1 => (((le * r_1) / (10000 : Int32)) + (250 : Int32)))
set_option maxHeartbeats 1000000 in
set_option maxRecDepth 100000 in
theorem c_X9_heightOf (l : Launch) (dC : Nat → ClassId) (dI : Nat → Nat → Nat) (cyI : ClassId) (le : Int32) (an : Int32) : Met l yX9_heightOf wqX9_heightOf ({ frames := 2, cells := 0, slots := 0, locals := 42 } : Room) (va_Pc [.int le, .int an] (pB (dC, dI) [] [] eM)) (vp_Si (fun r => r = (m_heightOf le an))) 0 0 aF := by
  refine Met.ofW (cc := cX9_heightOf) (maxL := 2) (ret := (some .int)) (by decide) rfl ?_
  intro p e s m args below meth c s₁ B hml hv
  obtain ⟨rfl, hP, hK, he⟩ := hv
  have hx := B.exec
  have hb := B.bytes
  have hr := B.returns
  have hts := atoms_spec (ws := wqX9_heightOf) B.pre
  have hown : s.vm.findClass RX9 = some m.cls := findClass_of_methodNamed B.named
  have hlocks := B.notSynchronized
  have hS : va_S aF s.heap s.heap [] := va_S.rf
  have hP : va_P (dC, dI) vwCl [] s.heap := hP
  have hl := lv_entry ([.int le, .int an] : List Value) (n := 2) (Nat.le_of_ble_eq_true rfl)
  rw [lg_entry_eq]
  generalize (lg_sl ([.int le, .int an] : List Value) ++ List.replicate (2 - (lg_sl ([.int le, .int an] : List Value)).length) Slot.unset).toArray = ls at hl ⊢
  have hl : lv_has ls 2 [(0, .int le), (1, .int an)] := hl
  have hE : m_heightOf le an = m_heightOf le an := rfl
  refine lv_iload_n hx hb dX9_heightOf_0 rfl (lv_at hl 0 rfl) ?_
  refine lv_sipush (v := 900) hx hb dX9_heightOf_1 (by decide) ?_
  refine lv_iload_n hx hb dX9_heightOf_4 rfl (lv_at hl 1 rfl) ?_
  refine lv_isub hx hb dX9_heightOf_5 ?_
  refine vp_callSi (W.runS (As := [.int ((900 : Int32) - an)]) (rest := [.int le]) ⟨hx, hb, hml, hown, hts⟩ (c_X9_cosine l dC dI cyI ((900 : Int32) - an)) (va_cwS 1 hts (gBS b_387 b_388 b_5 b_389) rfl rfl rfl (by decide +kernel) ⟨Nat.le_of_ble_eq_true rfl, Nat.le_of_ble_eq_true rfl⟩) (pre_s eM_ok he hS hP hK) rfl rfl hl.1 rfl (lv_room (Nat.le_of_ble_eq_true rfl)) dX9_heightOf_6 ⟨Nat.zero_le _, Nat.zero_le _⟩) (fun r_1 hr_1 => ?_)
  have hE := hE.trans (spLet_eq hr_1)
  refine lv_imul hx hb dX9_heightOf_9 ?_
  refine lv_sipush (v := 10000) hx hb dX9_heightOf_10 (by decide) ?_
  refine lv_idiv hx hb dX9_heightOf_13 (by decide) ?_
  refine lv_sipush (v := 250) hx hb dX9_heightOf_14 (by decide) ?_
  refine lv_iadd hx hb dX9_heightOf_17 ?_
  exact W.iret (v := (((le * r_1) / (10000 : Int32)) + (250 : Int32))) hx hb hr (fun t ht hW => ⟨_, rfl, hE.symm, ht⟩) (fun q h => by cases h) dX9_heightOf_18
def m_radius (zs : Nat → Int32) : Int32 :=
  spLet (m_radiusOf (zs 0) (zs 1)) (fun r_1 => r_1)
set_option maxHeartbeats 1000000 in
set_option maxRecDepth 100000 in
theorem c_X9_radius (l : Launch) (dC : Nat → ClassId) (dI : Nat → Nat → Nat) (cyI : ClassId) (q0 : Nat) (q1 : Nat) (q2 : Nat) (q3 : Nat) (q4 : Nat) (q5 : Nat) (q6 : Nat) (svc : Int32) (tl : Int32) (cde : Int32) (mm : Int32) (mr : Int32) (ati : Int32) (ors : Int32) (zs : Nat → Int32) (zv : Nat → Int32) (zt : Nat → Int32) (zp : Nat → Int32) (zm : Nat → Int32) (zk : Nat → Int32) : Met l yX9_radius wqX9_radius ({ frames := 3, cells := 0, slots := 0, locals := 63 } : Room) (va_Pc [.ref q0] (pB (dC, dI) [(q0, .inr (9, [.ref q1, .ref q2, .int svc, .ref q3, .int tl, .int cde, .int mm, .int mr, .ref q4, .int ati, .int ors, .ref q5, .ref q6])), (q1, .inl (cyI, 246, .inl zs)), (q2, .inl (cyI, 984, .inl zv)), (q3, .inl (cyI, 80, .inl zt)), (q4, .inl (cyI, 5, .inl zp)), (q5, .inl (cyI, 40, .inl zm)), (q6, .inl (cyI, 40, .inl zk))] [(cyI, .int)] eM)) (vp_Si (fun r => r = (m_radius zs))) 0 0 aF := by
  refine Met.ofW (cc := cX9_radius) (maxL := 1) (ret := (some .int)) (by decide) rfl ?_
  intro p e s m args below meth c s₁ B hml hv
  obtain ⟨rfl, hP, hK, he⟩ := hv
  have hx := B.exec
  have hb := B.bytes
  have hr := B.returns
  have hts := atoms_spec (ws := wqX9_radius) B.pre
  have hown : s.vm.findClass RX9 = some m.cls := findClass_of_methodNamed B.named
  have hlocks := B.notSynchronized
  have w_0 := hts (Cond.fieldLink RX9 7 "CraneLimiterModel" "s" "[I") (List.mem_cons_of_mem _ b_93)
  have i_X9 : ∀ w ∈ u_ws RX9 TX9 13, w ∈ wqX9_radius := fun w h => List.mem_cons_of_mem _ (bX9 w h)
  have hS : va_S aF s.heap s.heap [] := va_S.rf
  have hP : va_P (dC, dI) vwCl [(q0, .inr (9, [.ref q1, .ref q2, .int svc, .ref q3, .int tl, .int cde, .int mm, .int mr, .ref q4, .int ati, .int ors, .ref q5, .ref q6])), (q1, .inl (cyI, 246, .inl zs)), (q2, .inl (cyI, 984, .inl zv)), (q3, .inl (cyI, 80, .inl zt)), (q4, .inl (cyI, 5, .inl zp)), (q5, .inl (cyI, 40, .inl zm)), (q6, .inl (cyI, 40, .inl zk))] s.heap := hP
  have hl := lv_entry ([.ref q0] : List Value) (n := 1) (Nat.le_of_ble_eq_true rfl)
  rw [lg_entry_eq]
  generalize (lg_sl ([.ref q0] : List Value) ++ List.replicate (1 - (lg_sl ([.ref q0] : List Value)).length) Slot.unset).toArray = ls at hl ⊢
  have hl : lv_has ls 1 [(0, .ref q0)] := hl
  have hE : m_radius zs = m_radius zs := rfl
  refine lv_aload_n hx hb dX9_radius_0 rfl (lv_at hl 0 rfl) ?_
  refine va_get (D := (dC, dI)) (ci := 9) (v := .ref q1) (C := RX9) (T := TX9) (N := 13) hx hb hts i_X9 hown hK hP 0 rfl rfl 0 (by decide) w_0 (fun _ h9 => h9) rfl dX9_radius_1 ?_
  refine lv_iconst (v := 0) hx hb dX9_radius_4 (by decide) ?_
  refine ra_ld hx hb hK hP 1 0 rfl rfl (j := 0) (rfl : (0 : Int32) = nI 0) (by omega) (by omega) dX9_radius_5 ?_
  refine lv_aload_n hx hb dX9_radius_6 rfl (lv_at hl 0 rfl) ?_
  refine va_get (D := (dC, dI)) (ci := 9) (v := .ref q1) (C := RX9) (T := TX9) (N := 13) hx hb hts i_X9 hown hK hP 0 rfl rfl 0 (by decide) w_0 (fun _ h9 => h9) rfl dX9_radius_7 ?_
  refine lv_iconst (v := 1) hx hb dX9_radius_10 (by decide) ?_
  refine ra_ld hx hb hK hP 1 0 rfl rfl (j := 1) (rfl : (1 : Int32) = nI 1) (by omega) (by omega) dX9_radius_11 ?_
  refine vp_callSi (W.runS (As := [.int (zs 0), .int (zs 1)]) (rest := []) ⟨hx, hb, hml, hown, hts⟩ (c_X9_radiusOf l dC dI cyI (zs 0) (zs 1)) (va_cwS 2 hts (gBS b_384 b_385 b_5 b_386) rfl rfl rfl (by decide +kernel) ⟨Nat.le_of_ble_eq_true rfl, Nat.le_of_ble_eq_true rfl⟩) (pre_s eM_ok he hS (hP.sub (ws' := []) [] rfl) (hK.sub (tys' := []) [] rfl)) rfl rfl hl.1 rfl (lv_room (Nat.le_of_ble_eq_true rfl)) dX9_radius_12 ⟨Nat.zero_le _, Nat.zero_le _⟩) (fun r_1 hr_1 => ?_)
  have hE := hE.trans (spLet_eq hr_1)
  exact W.iret (v := r_1) hx hb hr (fun t ht hW => ⟨_, rfl, hE.symm, ht⟩) (fun q h => by cases h) dX9_radius_15
def m_height (zs : Nat → Int32) : Int32 :=
  spLet (m_heightOf (zs 0) (zs 1)) (fun r_1 => r_1)
set_option maxHeartbeats 1000000 in
set_option maxRecDepth 100000 in
theorem c_X9_height (l : Launch) (dC : Nat → ClassId) (dI : Nat → Nat → Nat) (cyI : ClassId) (q0 : Nat) (q1 : Nat) (q2 : Nat) (q3 : Nat) (q4 : Nat) (q5 : Nat) (q6 : Nat) (svc : Int32) (tl : Int32) (cde : Int32) (mm : Int32) (mr : Int32) (ati : Int32) (ors : Int32) (zs : Nat → Int32) (zv : Nat → Int32) (zt : Nat → Int32) (zp : Nat → Int32) (zm : Nat → Int32) (zk : Nat → Int32) : Met l yX9_height wqX9_height ({ frames := 3, cells := 0, slots := 0, locals := 63 } : Room) (va_Pc [.ref q0] (pB (dC, dI) [(q0, .inr (9, [.ref q1, .ref q2, .int svc, .ref q3, .int tl, .int cde, .int mm, .int mr, .ref q4, .int ati, .int ors, .ref q5, .ref q6])), (q1, .inl (cyI, 246, .inl zs)), (q2, .inl (cyI, 984, .inl zv)), (q3, .inl (cyI, 80, .inl zt)), (q4, .inl (cyI, 5, .inl zp)), (q5, .inl (cyI, 40, .inl zm)), (q6, .inl (cyI, 40, .inl zk))] [(cyI, .int)] eM)) (vp_Si (fun r => r = (m_height zs))) 0 0 aF := by
  refine Met.ofW (cc := cX9_height) (maxL := 1) (ret := (some .int)) (by decide) rfl ?_
  intro p e s m args below meth c s₁ B hml hv
  obtain ⟨rfl, hP, hK, he⟩ := hv
  have hx := B.exec
  have hb := B.bytes
  have hr := B.returns
  have hts := atoms_spec (ws := wqX9_height) B.pre
  have hown : s.vm.findClass RX9 = some m.cls := findClass_of_methodNamed B.named
  have hlocks := B.notSynchronized
  have w_0 := hts (Cond.fieldLink RX9 7 "CraneLimiterModel" "s" "[I") (List.mem_cons_of_mem _ b_93)
  have i_X9 : ∀ w ∈ u_ws RX9 TX9 13, w ∈ wqX9_height := fun w h => List.mem_cons_of_mem _ (bX9 w h)
  have hS : va_S aF s.heap s.heap [] := va_S.rf
  have hP : va_P (dC, dI) vwCl [(q0, .inr (9, [.ref q1, .ref q2, .int svc, .ref q3, .int tl, .int cde, .int mm, .int mr, .ref q4, .int ati, .int ors, .ref q5, .ref q6])), (q1, .inl (cyI, 246, .inl zs)), (q2, .inl (cyI, 984, .inl zv)), (q3, .inl (cyI, 80, .inl zt)), (q4, .inl (cyI, 5, .inl zp)), (q5, .inl (cyI, 40, .inl zm)), (q6, .inl (cyI, 40, .inl zk))] s.heap := hP
  have hl := lv_entry ([.ref q0] : List Value) (n := 1) (Nat.le_of_ble_eq_true rfl)
  rw [lg_entry_eq]
  generalize (lg_sl ([.ref q0] : List Value) ++ List.replicate (1 - (lg_sl ([.ref q0] : List Value)).length) Slot.unset).toArray = ls at hl ⊢
  have hl : lv_has ls 1 [(0, .ref q0)] := hl
  have hE : m_height zs = m_height zs := rfl
  refine lv_aload_n hx hb dX9_height_0 rfl (lv_at hl 0 rfl) ?_
  refine va_get (D := (dC, dI)) (ci := 9) (v := .ref q1) (C := RX9) (T := TX9) (N := 13) hx hb hts i_X9 hown hK hP 0 rfl rfl 0 (by decide) w_0 (fun _ h9 => h9) rfl dX9_height_1 ?_
  refine lv_iconst (v := 0) hx hb dX9_height_4 (by decide) ?_
  refine ra_ld hx hb hK hP 1 0 rfl rfl (j := 0) (rfl : (0 : Int32) = nI 0) (by omega) (by omega) dX9_height_5 ?_
  refine lv_aload_n hx hb dX9_height_6 rfl (lv_at hl 0 rfl) ?_
  refine va_get (D := (dC, dI)) (ci := 9) (v := .ref q1) (C := RX9) (T := TX9) (N := 13) hx hb hts i_X9 hown hK hP 0 rfl rfl 0 (by decide) w_0 (fun _ h9 => h9) rfl dX9_height_7 ?_
  refine lv_iconst (v := 1) hx hb dX9_height_10 (by decide) ?_
  refine ra_ld hx hb hK hP 1 0 rfl rfl (j := 1) (rfl : (1 : Int32) = nI 1) (by omega) (by omega) dX9_height_11 ?_
  refine vp_callSi (W.runS (As := [.int (zs 0), .int (zs 1)]) (rest := []) ⟨hx, hb, hml, hown, hts⟩ (c_X9_heightOf l dC dI cyI (zs 0) (zs 1)) (va_cwS 2 hts (gBS b_400 b_401 b_5 b_402) rfl rfl rfl (by decide +kernel) ⟨Nat.le_of_ble_eq_true rfl, Nat.le_of_ble_eq_true rfl⟩) (pre_s eM_ok he hS (hP.sub (ws' := []) [] rfl) (hK.sub (tys' := []) [] rfl)) rfl rfl hl.1 rfl (lv_room (Nat.le_of_ble_eq_true rfl)) dX9_height_12 ⟨Nat.zero_le _, Nat.zero_le _⟩) (fun r_1 hr_1 => ?_)
  have hE := hE.trans (spLet_eq hr_1)
  exact W.iret (v := r_1) hx hb hr (fun t ht hW => ⟨_, rfl, hE.symm, ht⟩) (fun q h => by cases h) dX9_height_15
def m_moment (zs : Nat → Int32) : Int64 :=
  spLet (m_radius zs) (fun r_1 => (((((4 : Int32) * (zs 0)) / (5 : Int32)).toInt64) * (((r_1 + (150 : Int32)) / (2 : Int32)).toInt64)))
set_option maxHeartbeats 1000000 in
set_option maxRecDepth 100000 in
theorem c_X9_moment (l : Launch) (dC : Nat → ClassId) (dI : Nat → Nat → Nat) (cyI : ClassId) (q0 : Nat) (q1 : Nat) (q2 : Nat) (q3 : Nat) (q4 : Nat) (q5 : Nat) (q6 : Nat) (svc : Int32) (tl : Int32) (cde : Int32) (mm : Int32) (mr : Int32) (ati : Int32) (ors : Int32) (zs : Nat → Int32) (zv : Nat → Int32) (zt : Nat → Int32) (zp : Nat → Int32) (zm : Nat → Int32) (zk : Nat → Int32) : Met l yX9_moment wqX9_moment ({ frames := 4, cells := 0, slots := 0, locals := 83 } : Room) (va_Pc [.ref q0] (pB (dC, dI) [(q0, .inr (9, [.ref q1, .ref q2, .int svc, .ref q3, .int tl, .int cde, .int mm, .int mr, .ref q4, .int ati, .int ors, .ref q5, .ref q6])), (q1, .inl (cyI, 246, .inl zs)), (q2, .inl (cyI, 984, .inl zv)), (q3, .inl (cyI, 80, .inl zt)), (q4, .inl (cyI, 5, .inl zp)), (q5, .inl (cyI, 40, .inl zm)), (q6, .inl (cyI, 40, .inl zk))] [(cyI, .int)] eM)) (vp_Sl (fun r => r = (m_moment zs))) 0 0 aF := by
  refine Met.ofW (cc := cX9_moment) (maxL := 1) (ret := (some .long)) (by decide) rfl ?_
  intro p e s m args below meth c s₁ B hml hv
  obtain ⟨rfl, hP, hK, he⟩ := hv
  have hx := B.exec
  have hb := B.bytes
  have hr := B.returns
  have hts := atoms_spec (ws := wqX9_moment) B.pre
  have hown : s.vm.findClass RX9 = some m.cls := findClass_of_methodNamed B.named
  have hlocks := B.notSynchronized
  have w_0 := hts (Cond.fieldLink RX9 7 "CraneLimiterModel" "s" "[I") (List.mem_cons_of_mem _ b_93)
  have i_X9 : ∀ w ∈ u_ws RX9 TX9 13, w ∈ wqX9_moment := fun w h => List.mem_cons_of_mem _ (bX9 w h)
  have hS : va_S aF s.heap s.heap [] := va_S.rf
  have hP : va_P (dC, dI) vwCl [(q0, .inr (9, [.ref q1, .ref q2, .int svc, .ref q3, .int tl, .int cde, .int mm, .int mr, .ref q4, .int ati, .int ors, .ref q5, .ref q6])), (q1, .inl (cyI, 246, .inl zs)), (q2, .inl (cyI, 984, .inl zv)), (q3, .inl (cyI, 80, .inl zt)), (q4, .inl (cyI, 5, .inl zp)), (q5, .inl (cyI, 40, .inl zm)), (q6, .inl (cyI, 40, .inl zk))] s.heap := hP
  have hl := lv_entry ([.ref q0] : List Value) (n := 1) (Nat.le_of_ble_eq_true rfl)
  rw [lg_entry_eq]
  generalize (lg_sl ([.ref q0] : List Value) ++ List.replicate (1 - (lg_sl ([.ref q0] : List Value)).length) Slot.unset).toArray = ls at hl ⊢
  have hl : lv_has ls 1 [(0, .ref q0)] := hl
  have hE : m_moment zs = m_moment zs := rfl
  refine lv_iconst (v := 4) hx hb dX9_moment_0 (by decide) ?_
  refine lv_aload_n hx hb dX9_moment_1 rfl (lv_at hl 0 rfl) ?_
  refine va_get (D := (dC, dI)) (ci := 9) (v := .ref q1) (C := RX9) (T := TX9) (N := 13) hx hb hts i_X9 hown hK hP 0 rfl rfl 0 (by decide) w_0 (fun _ h9 => h9) rfl dX9_moment_2 ?_
  refine lv_iconst (v := 0) hx hb dX9_moment_5 (by decide) ?_
  refine ra_ld hx hb hK hP 1 0 rfl rfl (j := 0) (rfl : (0 : Int32) = nI 0) (by omega) (by omega) dX9_moment_6 ?_
  refine lv_imul hx hb dX9_moment_7 ?_
  refine lv_iconst (v := 5) hx hb dX9_moment_8 (by decide) ?_
  refine lv_idiv hx hb dX9_moment_9 (by decide) ?_
  refine lv_i2l hx hb dX9_moment_10 rfl ?_
  refine lv_aload_n hx hb dX9_moment_11 rfl (lv_at hl 0 rfl) ?_
  refine vp_callSi (W.runV (As := []) (rest := [.long (((4 : Int32) * (zs 0)) / (5 : Int32)).toInt64]) ⟨hx, hb, hml, hown, hts⟩ (c_X9_radius l dC dI cyI q0 q1 q2 q3 q4 q5 q6 svc tl cde mm mr ati ors zs zv zt zp zm zk) (cwV 0 hts (gBV b_380 b_381 b_382 b_5 b_383) rfl rfl rfl (by decide +kernel) ⟨Nat.le_of_ble_eq_true rfl, Nat.le_of_ble_eq_true rfl⟩) (pre_v eM_ok he hS hP hK 0 rfl rfl rfl) rfl rfl hl.1 rfl (lv_room (Nat.le_of_ble_eq_true rfl)) dX9_moment_12 ⟨Nat.zero_le _, Nat.zero_le _⟩) (fun r_1 hr_1 => ?_)
  have hE := hE.trans (spLet_eq hr_1)
  refine lv_sipush (v := 150) hx hb dX9_moment_15 (by decide) ?_
  refine lv_iadd hx hb dX9_moment_18 ?_
  refine lv_iconst (v := 2) hx hb dX9_moment_19 (by decide) ?_
  refine lv_idiv hx hb dX9_moment_20 (by decide) ?_
  refine lv_i2l hx hb dX9_moment_21 rfl ?_
  refine lv_lmul hx hb dX9_moment_22 ?_
  exact W.lret (v := (((((4 : Int32) * (zs 0)) / (5 : Int32)).toInt64) * (((r_1 + (150 : Int32)) / (2 : Int32)).toInt64))) hx hb hr (fun t ht hW => ⟨_, rfl, hE.symm, ht⟩) (fun q h => by cases h) dX9_moment_23
def m_deflection (zs : Nat → Int32) (mass : Int64) : Int32 :=
  (((mass * ((zs 0).toInt64)) * ((zs 0).toInt64)) / (750000000 : Int64)).toInt32
set_option maxHeartbeats 1000000 in
set_option maxRecDepth 100000 in
theorem c_X9_deflection (l : Launch) (dC : Nat → ClassId) (dI : Nat → Nat → Nat) (cyI : ClassId) (q0 : Nat) (q1 : Nat) (q2 : Nat) (q3 : Nat) (q4 : Nat) (q5 : Nat) (q6 : Nat) (svc : Int32) (tl : Int32) (cde : Int32) (mm : Int32) (mr : Int32) (ati : Int32) (ors : Int32) (zs : Nat → Int32) (zv : Nat → Int32) (zt : Nat → Int32) (zp : Nat → Int32) (zm : Nat → Int32) (zk : Nat → Int32) (mass : Int64) : Met l yX9_deflection wqX9_deflection ({ frames := 0, cells := 0, slots := 0, locals := 0 } : Room) (va_Pc [.ref q0, .long mass] (pB (dC, dI) [(q0, .inr (9, [.ref q1, .ref q2, .int svc, .ref q3, .int tl, .int cde, .int mm, .int mr, .ref q4, .int ati, .int ors, .ref q5, .ref q6])), (q1, .inl (cyI, 246, .inl zs)), (q2, .inl (cyI, 984, .inl zv)), (q3, .inl (cyI, 80, .inl zt)), (q4, .inl (cyI, 5, .inl zp)), (q5, .inl (cyI, 40, .inl zm)), (q6, .inl (cyI, 40, .inl zk))] [(cyI, .int)] eM)) (vp_Si (fun r => r = (m_deflection zs mass))) 0 0 aF := by
  refine Met.ofW (cc := cX9_deflection) (maxL := 3) (ret := (some .int)) (by decide) rfl ?_
  intro p e s m args below meth c s₁ B hml hv
  obtain ⟨rfl, hP, hK, he⟩ := hv
  have hx := B.exec
  have hb := B.bytes
  have hr := B.returns
  have hts := atoms_spec (ws := wqX9_deflection) B.pre
  have hown : s.vm.findClass RX9 = some m.cls := findClass_of_methodNamed B.named
  have hlocks := B.notSynchronized
  have w_0 := hts (Cond.fieldLink RX9 7 "CraneLimiterModel" "s" "[I") (List.mem_cons_of_mem _ b_93)
  have w_1 := hts (Cond.constantLong RX9 59 (750000000)) (List.mem_cons_of_mem _ b_692)
  have i_X9 : ∀ w ∈ u_ws RX9 TX9 13, w ∈ wqX9_deflection := fun w h => List.mem_cons_of_mem _ (bX9 w h)
  have hS : va_S aF s.heap s.heap [] := va_S.rf
  have hP : va_P (dC, dI) vwCl [(q0, .inr (9, [.ref q1, .ref q2, .int svc, .ref q3, .int tl, .int cde, .int mm, .int mr, .ref q4, .int ati, .int ors, .ref q5, .ref q6])), (q1, .inl (cyI, 246, .inl zs)), (q2, .inl (cyI, 984, .inl zv)), (q3, .inl (cyI, 80, .inl zt)), (q4, .inl (cyI, 5, .inl zp)), (q5, .inl (cyI, 40, .inl zm)), (q6, .inl (cyI, 40, .inl zk))] s.heap := hP
  have hl := lv_entry ([.ref q0, .long mass] : List Value) (n := 3) (Nat.le_of_ble_eq_true rfl)
  rw [lg_entry_eq]
  generalize (lg_sl ([.ref q0, .long mass] : List Value) ++ List.replicate (3 - (lg_sl ([.ref q0, .long mass] : List Value)).length) Slot.unset).toArray = ls at hl ⊢
  have hl : lv_has ls 3 [(0, .ref q0), (1, .long mass)] := hl
  have hE : m_deflection zs mass = m_deflection zs mass := rfl
  refine lv_lload_n hx hb dX9_deflection_0 rfl (lv_at hl 1 rfl) ?_
  refine lv_aload_n hx hb dX9_deflection_1 rfl (lv_at hl 0 rfl) ?_
  refine va_get (D := (dC, dI)) (ci := 9) (v := .ref q1) (C := RX9) (T := TX9) (N := 13) hx hb hts i_X9 hown hK hP 0 rfl rfl 0 (by decide) w_0 (fun _ h9 => h9) rfl dX9_deflection_2 ?_
  refine lv_iconst (v := 0) hx hb dX9_deflection_5 (by decide) ?_
  refine ra_ld hx hb hK hP 1 0 rfl rfl (j := 0) (rfl : (0 : Int32) = nI 0) (by omega) (by omega) dX9_deflection_6 ?_
  refine lv_i2l hx hb dX9_deflection_7 rfl ?_
  refine lv_lmul hx hb dX9_deflection_8 ?_
  refine lv_aload_n hx hb dX9_deflection_9 rfl (lv_at hl 0 rfl) ?_
  refine va_get (D := (dC, dI)) (ci := 9) (v := .ref q1) (C := RX9) (T := TX9) (N := 13) hx hb hts i_X9 hown hK hP 0 rfl rfl 0 (by decide) w_0 (fun _ h9 => h9) rfl dX9_deflection_10 ?_
  refine lv_iconst (v := 0) hx hb dX9_deflection_13 (by decide) ?_
  refine ra_ld hx hb hK hP 1 0 rfl rfl (j := 0) (rfl : (0 : Int32) = nI 0) (by omega) (by omega) dX9_deflection_14 ?_
  refine lv_i2l hx hb dX9_deflection_15 rfl ?_
  refine lv_lmul hx hb dX9_deflection_16 ?_
  refine lv_ldc2 (v := 750000000) hx hb hown w_1 dX9_deflection_17 ?_
  refine lv_ldiv hx hb dX9_deflection_20 (by decide) ?_
  refine lv_l2i hx hb dX9_deflection_21 rfl ?_
  exact W.iret (v := (((mass * ((zs 0).toInt64)) * ((zs 0).toInt64)) / (750000000 : Int64)).toInt32) hx hb hr (fun t ht hW => ⟨_, rfl, hE.symm, ht⟩) (fun q h => by cases h) dX9_deflection_22
def m_pressure (zs : Nat → Int32) : Int32 :=
  spLet (((((zs 6) * (zs 4)) / (4 : Int32)) + (zs 5)).toInt64) (fun x_1 => spLet (m_radius zs) (fun r_2 => spLet (m_deflection zs x_1) (fun r_3 => spLet (m_moment zs) (fun r_4 => (((x_1 * (((r_2 + r_3) + (150 : Int32)).toInt64)) + r_4) / (500 : Int64)).toInt32))))
set_option maxHeartbeats 1000000 in
set_option maxRecDepth 100000 in
theorem c_X9_pressure (l : Launch) (dC : Nat → ClassId) (dI : Nat → Nat → Nat) (cyI : ClassId) (q0 : Nat) (q1 : Nat) (q2 : Nat) (q3 : Nat) (q4 : Nat) (q5 : Nat) (q6 : Nat) (svc : Int32) (tl : Int32) (cde : Int32) (mm : Int32) (mr : Int32) (ati : Int32) (ors : Int32) (zs : Nat → Int32) (zv : Nat → Int32) (zt : Nat → Int32) (zp : Nat → Int32) (zm : Nat → Int32) (zk : Nat → Int32) : Met l yX9_pressure wqX9_pressure ({ frames := 5, cells := 0, slots := 0, locals := 103 } : Room) (va_Pc [.ref q0] (pB (dC, dI) [(q0, .inr (9, [.ref q1, .ref q2, .int svc, .ref q3, .int tl, .int cde, .int mm, .int mr, .ref q4, .int ati, .int ors, .ref q5, .ref q6])), (q1, .inl (cyI, 246, .inl zs)), (q2, .inl (cyI, 984, .inl zv)), (q3, .inl (cyI, 80, .inl zt)), (q4, .inl (cyI, 5, .inl zp)), (q5, .inl (cyI, 40, .inl zm)), (q6, .inl (cyI, 40, .inl zk))] [(cyI, .int)] eM)) (vp_Si (fun r => r = (m_pressure zs))) 0 0 aF := by
  refine Met.ofW (cc := cX9_pressure) (maxL := 3) (ret := (some .int)) (by decide) rfl ?_
  intro p e s m args below meth c s₁ B hml hv
  obtain ⟨rfl, hP, hK, he⟩ := hv
  have hx := B.exec
  have hb := B.bytes
  have hr := B.returns
  have hts := atoms_spec (ws := wqX9_pressure) B.pre
  have hown : s.vm.findClass RX9 = some m.cls := findClass_of_methodNamed B.named
  have hlocks := B.notSynchronized
  have w_0 := hts (Cond.fieldLink RX9 7 "CraneLimiterModel" "s" "[I") (List.mem_cons_of_mem _ b_93)
  have w_1 := hts (Cond.constantLong RX9 69 (500)) (List.mem_cons_of_mem _ b_681)
  have i_X9 : ∀ w ∈ u_ws RX9 TX9 13, w ∈ wqX9_pressure := fun w h => List.mem_cons_of_mem _ (bX9 w h)
  have hS : va_S aF s.heap s.heap [] := va_S.rf
  have hP : va_P (dC, dI) vwCl [(q0, .inr (9, [.ref q1, .ref q2, .int svc, .ref q3, .int tl, .int cde, .int mm, .int mr, .ref q4, .int ati, .int ors, .ref q5, .ref q6])), (q1, .inl (cyI, 246, .inl zs)), (q2, .inl (cyI, 984, .inl zv)), (q3, .inl (cyI, 80, .inl zt)), (q4, .inl (cyI, 5, .inl zp)), (q5, .inl (cyI, 40, .inl zm)), (q6, .inl (cyI, 40, .inl zk))] s.heap := hP
  have hl := lv_entry ([.ref q0] : List Value) (n := 3) (Nat.le_of_ble_eq_true rfl)
  rw [lg_entry_eq]
  generalize (lg_sl ([.ref q0] : List Value) ++ List.replicate (3 - (lg_sl ([.ref q0] : List Value)).length) Slot.unset).toArray = ls at hl ⊢
  have hl : lv_has ls 3 [(0, .ref q0)] := hl
  have hE : m_pressure zs = m_pressure zs := rfl
  refine lv_aload_n hx hb dX9_pressure_0 rfl (lv_at hl 0 rfl) ?_
  refine va_get (D := (dC, dI)) (ci := 9) (v := .ref q1) (C := RX9) (T := TX9) (N := 13) hx hb hts i_X9 hown hK hP 0 rfl rfl 0 (by decide) w_0 (fun _ h9 => h9) rfl dX9_pressure_1 ?_
  refine lv_bipush (v := 6) hx hb dX9_pressure_4 (by decide) ?_
  refine ra_ld hx hb hK hP 1 0 rfl rfl (j := 6) (rfl : (6 : Int32) = nI 6) (by omega) (by omega) dX9_pressure_6 ?_
  refine lv_aload_n hx hb dX9_pressure_7 rfl (lv_at hl 0 rfl) ?_
  refine va_get (D := (dC, dI)) (ci := 9) (v := .ref q1) (C := RX9) (T := TX9) (N := 13) hx hb hts i_X9 hown hK hP 0 rfl rfl 0 (by decide) w_0 (fun _ h9 => h9) rfl dX9_pressure_8 ?_
  refine lv_iconst (v := 4) hx hb dX9_pressure_11 (by decide) ?_
  refine ra_ld hx hb hK hP 1 0 rfl rfl (j := 4) (rfl : (4 : Int32) = nI 4) (by omega) (by omega) dX9_pressure_12 ?_
  refine lv_imul hx hb dX9_pressure_13 ?_
  refine lv_iconst (v := 4) hx hb dX9_pressure_14 (by decide) ?_
  refine lv_idiv hx hb dX9_pressure_15 (by decide) ?_
  refine lv_aload_n hx hb dX9_pressure_16 rfl (lv_at hl 0 rfl) ?_
  refine va_get (D := (dC, dI)) (ci := 9) (v := .ref q1) (C := RX9) (T := TX9) (N := 13) hx hb hts i_X9 hown hK hP 0 rfl rfl 0 (by decide) w_0 (fun _ h9 => h9) rfl dX9_pressure_17 ?_
  refine lv_iconst (v := 5) hx hb dX9_pressure_20 (by decide) ?_
  refine ra_ld hx hb hK hP 1 0 rfl rfl (j := 5) (rfl : (5 : Int32) = nI 5) (by omega) (by omega) dX9_pressure_21 ?_
  refine lv_iadd hx hb dX9_pressure_22 ?_
  refine lv_i2l hx hb dX9_pressure_23 rfl ?_
  refine lv_topl (fun x_1 ex_1 => ?_)
  have hE := hE.trans (spLet_eq ex_1)
  refine lv_lstore_n (lv' := [(1, .long x_1), (0, .ref q0)]) hx hb dX9_pressure_24 rfl hl (by decide) rfl (fun ls hl => ?_)
  refine lv_lload_n hx hb dX9_pressure_25 rfl (lv_at hl 0 rfl) ?_
  refine lv_aload_n hx hb dX9_pressure_26 rfl (lv_at hl 1 rfl) ?_
  refine vp_callSi (W.runV (As := []) (rest := [.long x_1]) ⟨hx, hb, hml, hown, hts⟩ (c_X9_radius l dC dI cyI q0 q1 q2 q3 q4 q5 q6 svc tl cde mm mr ati ors zs zv zt zp zm zk) (cwV 0 hts (gBV b_380 b_381 b_382 b_5 b_383) rfl rfl rfl (by decide +kernel) ⟨Nat.le_of_ble_eq_true rfl, Nat.le_of_ble_eq_true rfl⟩) (pre_v eM_ok he hS hP hK 0 rfl rfl rfl) rfl rfl hl.1 rfl (lv_room (Nat.le_of_ble_eq_true rfl)) dX9_pressure_27 ⟨Nat.zero_le _, Nat.zero_le _⟩) (fun r_2 hr_2 => ?_)
  have hE := hE.trans (spLet_eq hr_2)
  refine lv_aload_n hx hb dX9_pressure_30 rfl (lv_at hl 1 rfl) ?_
  refine lv_lload_n hx hb dX9_pressure_31 rfl (lv_at hl 0 rfl) ?_
  refine vp_callSi (W.runV (As := [.long x_1]) (rest := [.int r_2, .long x_1]) ⟨hx, hb, hml, hown, hts⟩ (c_X9_deflection l dC dI cyI q0 q1 q2 q3 q4 q5 q6 svc tl cde mm mr ati ors zs zv zt zp zm zk x_1) (cwV 1 hts (gBV b_688 b_689 b_690 b_5 b_691) rfl rfl rfl (by decide +kernel) ⟨Nat.le_of_ble_eq_true rfl, Nat.le_of_ble_eq_true rfl⟩) (pre_v eM_ok he hS hP hK 0 rfl rfl rfl) rfl rfl hl.1 rfl (lv_room (Nat.le_of_ble_eq_true rfl)) dX9_pressure_32 ⟨Nat.zero_le _, Nat.zero_le _⟩) (fun r_3 hr_3 => ?_)
  have hE := hE.trans (spLet_eq hr_3)
  refine lv_iadd hx hb dX9_pressure_35 ?_
  refine lv_sipush (v := 150) hx hb dX9_pressure_36 (by decide) ?_
  refine lv_iadd hx hb dX9_pressure_39 ?_
  refine lv_i2l hx hb dX9_pressure_40 rfl ?_
  refine lv_lmul hx hb dX9_pressure_41 ?_
  refine lv_aload_n hx hb dX9_pressure_42 rfl (lv_at hl 1 rfl) ?_
  refine vp_callSl (W.runV (As := []) (rest := [.long (x_1 * (((r_2 + r_3) + (150 : Int32)).toInt64))]) ⟨hx, hb, hml, hown, hts⟩ (c_X9_moment l dC dI cyI q0 q1 q2 q3 q4 q5 q6 svc tl cde mm mr ati ors zs zv zt zp zm zk) (cwV 0 hts (gBV b_693 b_694 b_695 b_5 b_696) rfl rfl rfl (by decide +kernel) ⟨Nat.le_of_ble_eq_true rfl, Nat.le_of_ble_eq_true rfl⟩) (pre_v eM_ok he hS hP hK 0 rfl rfl rfl) rfl rfl hl.1 rfl (lv_room (Nat.le_of_ble_eq_true rfl)) dX9_pressure_43 ⟨Nat.zero_le _, Nat.zero_le _⟩) (fun r_4 hr_4 => ?_)
  have hE := hE.trans (spLet_eq hr_4)
  refine lv_ladd hx hb dX9_pressure_46 ?_
  refine lv_ldc2 (v := 500) hx hb hown w_1 dX9_pressure_47 ?_
  refine lv_ldiv hx hb dX9_pressure_50 (by decide) ?_
  refine lv_l2i hx hb dX9_pressure_51 rfl ?_
  exact W.iret (v := (((x_1 * (((r_2 + r_3) + (150 : Int32)).toInt64)) + r_4) / (500 : Int64)).toInt32) hx hb hr (fun t ht hW => ⟨_, rfl, hE.symm, ht⟩) (fun q h => by cases h) dX9_pressure_52
def m_rowLength (row : Int32) : Int32 :=
  if row = 0 then (1000 : Int32) else (if row = (1 : Int32) then (2000 : Int32) else (if row = (2 : Int32) then (3500 : Int32) else (6000 : Int32)))
set_option maxHeartbeats 1000000 in
set_option maxRecDepth 100000 in
theorem c_X9_rowLength (l : Launch) (dC : Nat → ClassId) (dI : Nat → Nat → Nat) (cyI : ClassId) (row : Int32) : Met l yX9_rowLength wqX9_rowLength ({ frames := 0, cells := 0, slots := 0, locals := 0 } : Room) (va_Pc [.int row] (pB (dC, dI) [] [] eM)) (vp_Si (fun r => r = (m_rowLength row))) 0 0 aF := by
  refine Met.ofW (cc := cX9_rowLength) (maxL := 1) (ret := (some .int)) (by decide) rfl ?_
  intro p e s m args below meth c s₁ B hml hv
  obtain ⟨rfl, hP, hK, he⟩ := hv
  have hx := B.exec
  have hb := B.bytes
  have hr := B.returns
  have hts := atoms_spec (ws := wqX9_rowLength) B.pre
  have hown : s.vm.findClass RX9 = some m.cls := findClass_of_methodNamed B.named
  have hlocks := B.notSynchronized
  have hS : va_S aF s.heap s.heap [] := va_S.rf
  have hP : va_P (dC, dI) vwCl [] s.heap := hP
  have hl := lv_entry ([.int row] : List Value) (n := 1) (Nat.le_of_ble_eq_true rfl)
  rw [lg_entry_eq]
  generalize (lg_sl ([.int row] : List Value) ++ List.replicate (1 - (lg_sl ([.int row] : List Value)).length) Slot.unset).toArray = ls at hl ⊢
  have hl : lv_has ls 1 [(0, .int row)] := hl
  have hE : m_rowLength row = m_rowLength row := rfl
  refine lv_iload_n hx hb dX9_rowLength_0 rfl (lv_at hl 0 rfl) ?_
  refine lv_if_ne (tgt := 10) hx hb dX9_rowLength_1 (by decide) (fun c_1 => ?_) (fun c_1 => ?_)
  ·
    have hE := hE.trans (if_neg c_1)
    refine lv_iload_n hx hb dX9_rowLength_10 rfl (lv_at hl 0 rfl) ?_
    refine lv_iconst (v := 1) hx hb dX9_rowLength_11 (by decide) ?_
    refine lv_icmp_ne (tgt := 21) hx hb dX9_rowLength_12 (by decide) (fun c_2 => ?_) (fun c_2 => ?_)
    ·
      have hE := hE.trans (if_neg c_2)
      refine lv_iload_n hx hb dX9_rowLength_21 rfl (lv_at hl 0 rfl) ?_
      refine lv_iconst (v := 2) hx hb dX9_rowLength_22 (by decide) ?_
      refine lv_icmp_ne (tgt := 32) hx hb dX9_rowLength_23 (by decide) (fun c_3 => ?_) (fun c_3 => ?_)
      ·
        have hE := hE.trans (if_neg c_3)
        refine lv_sipush (v := 6000) hx hb dX9_rowLength_32 (by decide) ?_
        exact W.iret (v := (6000 : Int32)) hx hb hr (fun t ht hW => ⟨_, rfl, hE.symm, ht⟩) (fun q h => by cases h) dX9_rowLength_35
      ·
        have hE := hE.trans (if_pos c_3)
        refine lv_sipush (v := 3500) hx hb dX9_rowLength_26 (by decide) ?_
        refine lv_goto (tgt := 35) hx hb dX9_rowLength_29 (by decide) ?_
        exact W.iret (v := (3500 : Int32)) hx hb hr (fun t ht hW => ⟨_, rfl, hE.symm, ht⟩) (fun q h => by cases h) dX9_rowLength_35
    ·
      have hE := hE.trans (if_pos c_2)
      refine lv_sipush (v := 2000) hx hb dX9_rowLength_15 (by decide) ?_
      refine lv_goto (tgt := 35) hx hb dX9_rowLength_18 (by decide) ?_
      exact W.iret (v := (2000 : Int32)) hx hb hr (fun t ht hW => ⟨_, rfl, hE.symm, ht⟩) (fun q h => by cases h) dX9_rowLength_35
  ·
    have hE := hE.trans (if_pos c_1)
    refine lv_sipush (v := 1000) hx hb dX9_rowLength_4 (by decide) ?_
    refine lv_goto (tgt := 35) hx hb dX9_rowLength_7 (by decide) ?_
    exact W.iret (v := (1000 : Int32)) hx hb hr (fun t ht hW => ⟨_, rfl, hE.symm, ht⟩) (fun q h => by cases h) dX9_rowLength_35
def m_columnRadius (col : Int32) : Int32 :=
  if col = 0 then (300 : Int32) else (if col = 1 then (600 : Int32) else (if col = 2 then (1000 : Int32) else (if col = 3 then (1500 : Int32) else (if col = 4 then (2200 : Int32) else (3000 : Int32)))))
set_option maxHeartbeats 1000000 in
set_option maxRecDepth 100000 in
theorem c_X9_columnRadius (l : Launch) (dC : Nat → ClassId) (dI : Nat → Nat → Nat) (cyI : ClassId) (col : Int32) : Met l yX9_columnRadius wqX9_columnRadius ({ frames := 0, cells := 0, slots := 0, locals := 0 } : Room) (va_Pc [.int col] (pB (dC, dI) [] [] eM)) (vp_Si (fun r => r = (m_columnRadius col))) 0 0 aF := by
  refine Met.ofW (cc := cX9_columnRadius) (maxL := 1) (ret := (some .int)) (by decide) rfl ?_
  intro p e s m args below meth c s₁ B hml hv
  obtain ⟨rfl, hP, hK, he⟩ := hv
  have hx := B.exec
  have hb := B.bytes
  have hr := B.returns
  have hts := atoms_spec (ws := wqX9_columnRadius) B.pre
  have hown : s.vm.findClass RX9 = some m.cls := findClass_of_methodNamed B.named
  have hlocks := B.notSynchronized
  have hS : va_S aF s.heap s.heap [] := va_S.rf
  have hP : va_P (dC, dI) vwCl [] s.heap := hP
  have hl := lv_entry ([.int col] : List Value) (n := 1) (Nat.le_of_ble_eq_true rfl)
  rw [lg_entry_eq]
  generalize (lg_sl ([.int col] : List Value) ++ List.replicate (1 - (lg_sl ([.int col] : List Value)).length) Slot.unset).toArray = ls at hl ⊢
  have hl : lv_has ls 1 [(0, .int col)] := hl
  have hE : m_columnRadius col = m_columnRadius col := rfl
  refine lv_iload_n hx hb dX9_columnRadius_0 rfl (lv_at hl 0 rfl) ?_
  by_cases c_1 : col = 0
  ·
    have hE := hE.trans (if_pos c_1)
    refine lv_tableIn (tgt := 36) (off := 35) hx hb dX9_columnRadius_1 (by rw [c_1]; decide) (by rw [c_1]; decide) (by rw [c_1]; rfl) (by decide) ?_
    refine lv_sipush (v := 300) hx hb dX9_columnRadius_36 (by decide) ?_
    exact W.iret (v := (300 : Int32)) hx hb hr (fun t ht hW => ⟨_, rfl, hE.symm, ht⟩) (fun q h => by cases h) dX9_columnRadius_39
  ·
    have hE := hE.trans (if_neg c_1)
    by_cases c_2 : col = 1
    ·
      have hE := hE.trans (if_pos c_2)
      refine lv_tableIn (tgt := 40) (off := 39) hx hb dX9_columnRadius_1 (by rw [c_2]; decide) (by rw [c_2]; decide) (by rw [c_2]; rfl) (by decide) ?_
      refine lv_sipush (v := 600) hx hb dX9_columnRadius_40 (by decide) ?_
      exact W.iret (v := (600 : Int32)) hx hb hr (fun t ht hW => ⟨_, rfl, hE.symm, ht⟩) (fun q h => by cases h) dX9_columnRadius_43
    ·
      have hE := hE.trans (if_neg c_2)
      by_cases c_3 : col = 2
      ·
        have hE := hE.trans (if_pos c_3)
        refine lv_tableIn (tgt := 44) (off := 43) hx hb dX9_columnRadius_1 (by rw [c_3]; decide) (by rw [c_3]; decide) (by rw [c_3]; rfl) (by decide) ?_
        refine lv_sipush (v := 1000) hx hb dX9_columnRadius_44 (by decide) ?_
        exact W.iret (v := (1000 : Int32)) hx hb hr (fun t ht hW => ⟨_, rfl, hE.symm, ht⟩) (fun q h => by cases h) dX9_columnRadius_47
      ·
        have hE := hE.trans (if_neg c_3)
        by_cases c_4 : col = 3
        ·
          have hE := hE.trans (if_pos c_4)
          refine lv_tableIn (tgt := 48) (off := 47) hx hb dX9_columnRadius_1 (by rw [c_4]; decide) (by rw [c_4]; decide) (by rw [c_4]; rfl) (by decide) ?_
          refine lv_sipush (v := 1500) hx hb dX9_columnRadius_48 (by decide) ?_
          exact W.iret (v := (1500 : Int32)) hx hb hr (fun t ht hW => ⟨_, rfl, hE.symm, ht⟩) (fun q h => by cases h) dX9_columnRadius_51
        ·
          have hE := hE.trans (if_neg c_4)
          by_cases c_5 : col = 4
          ·
            have hE := hE.trans (if_pos c_5)
            refine lv_tableIn (tgt := 52) (off := 51) hx hb dX9_columnRadius_1 (by rw [c_5]; decide) (by rw [c_5]; decide) (by rw [c_5]; rfl) (by decide) ?_
            refine lv_sipush (v := 2200) hx hb dX9_columnRadius_52 (by decide) ?_
            exact W.iret (v := (2200 : Int32)) hx hb hr (fun t ht hW => ⟨_, rfl, hE.symm, ht⟩) (fun q h => by cases h) dX9_columnRadius_55
          ·
            have hE := hE.trans (if_neg c_5)
            refine lv_tableOut (tgt := 56) hx hb dX9_columnRadius_1 (by
                have n_c_1 : ¬ (col).toInt = 0 := lv_neT c_1 rfl
                have n_c_2 : ¬ (col).toInt = 1 := lv_neT c_2 rfl
                have n_c_3 : ¬ (col).toInt = 2 := lv_neT c_3 rfl
                have n_c_4 : ¬ (col).toInt = 3 := lv_neT c_4 rfl
                have n_c_5 : ¬ (col).toInt = 4 := lv_neT c_5 rfl
                omega) (by decide) ?_
            refine lv_sipush (v := 3000) hx hb dX9_columnRadius_56 (by decide) ?_
            exact W.iret (v := (3000 : Int32)) hx hb hr (fun t ht hW => ⟨_, rfl, hE.symm, ht⟩) (fun q h => by cases h) dX9_columnRadius_59
def m_apart (a : Int32) (b : Int32) : Int32 :=
  spLet ((((a - b) + (3600 : Int32)) - ((a - b) + (3600 : Int32)) / (3600 : Int32) * (3600 : Int32))) (fun x_1 => spLet (m_lesser x_1 ((3600 : Int32) - x_1)) (fun r_2 => r_2))
set_option maxHeartbeats 1000000 in
set_option maxRecDepth 100000 in
theorem c_X9_apart (l : Launch) (dC : Nat → ClassId) (dI : Nat → Nat → Nat) (cyI : ClassId) (a : Int32) (b : Int32) : Met l yX9_apart wqX9_apart ({ frames := 1, cells := 0, slots := 0, locals := 21 } : Room) (va_Pc [.int a, .int b] (pB (dC, dI) [] [] eM)) (vp_Si (fun r => r = (m_apart a b))) 0 0 aF := by
  refine Met.ofW (cc := cX9_apart) (maxL := 3) (ret := (some .int)) (by decide) rfl ?_
  intro p e s m args below meth c s₁ B hml hv
  obtain ⟨rfl, hP, hK, he⟩ := hv
  have hx := B.exec
  have hb := B.bytes
  have hr := B.returns
  have hts := atoms_spec (ws := wqX9_apart) B.pre
  have hown : s.vm.findClass RX9 = some m.cls := findClass_of_methodNamed B.named
  have hlocks := B.notSynchronized
  have hS : va_S aF s.heap s.heap [] := va_S.rf
  have hP : va_P (dC, dI) vwCl [] s.heap := hP
  have hl := lv_entry ([.int a, .int b] : List Value) (n := 3) (Nat.le_of_ble_eq_true rfl)
  rw [lg_entry_eq]
  generalize (lg_sl ([.int a, .int b] : List Value) ++ List.replicate (3 - (lg_sl ([.int a, .int b] : List Value)).length) Slot.unset).toArray = ls at hl ⊢
  have hl : lv_has ls 3 [(0, .int a), (1, .int b)] := hl
  have hE : m_apart a b = m_apart a b := rfl
  refine lv_iload_n hx hb dX9_apart_0 rfl (lv_at hl 0 rfl) ?_
  refine lv_iload_n hx hb dX9_apart_1 rfl (lv_at hl 1 rfl) ?_
  refine lv_isub hx hb dX9_apart_2 ?_
  refine lv_sipush (v := 3600) hx hb dX9_apart_3 (by decide) ?_
  refine lv_iadd hx hb dX9_apart_6 ?_
  refine lv_sipush (v := 3600) hx hb dX9_apart_7 (by decide) ?_
  refine lv_irem hx hb dX9_apart_10 (by decide) ?_
  refine lv_topi (fun x_1 ex_1 => ?_)
  have hE := hE.trans (spLet_eq ex_1)
  refine lv_istore_n (lv' := [(2, .int x_1), (0, .int a), (1, .int b)]) hx hb dX9_apart_11 rfl hl (by decide) rfl (fun ls hl => ?_)
  refine lv_iload_n hx hb dX9_apart_12 rfl (lv_at hl 0 rfl) ?_
  refine lv_sipush (v := 3600) hx hb dX9_apart_13 (by decide) ?_
  refine lv_iload_n hx hb dX9_apart_16 rfl (lv_at hl 0 rfl) ?_
  refine lv_isub hx hb dX9_apart_17 ?_
  refine vp_callSi (W.runS (As := [.int x_1, .int ((3600 : Int32) - x_1)]) (rest := []) ⟨hx, hb, hml, hown, hts⟩ (c_X9_lesser l dC dI cyI x_1 ((3600 : Int32) - x_1)) (va_cwS 2 hts (gBS b_267 b_268 b_5 b_269) rfl rfl rfl (by decide +kernel) ⟨Nat.le_of_ble_eq_true rfl, Nat.le_of_ble_eq_true rfl⟩) (pre_s eM_ok he hS hP hK) rfl rfl hl.1 rfl (lv_room (Nat.le_of_ble_eq_true rfl)) dX9_apart_18 ⟨Nat.zero_le _, Nat.zero_le _⟩) (fun r_2 hr_2 => ?_)
  have hE := hE.trans (spLet_eq hr_2)
  exact W.iret (v := r_2) hx hb hr (fun t ht hW => ⟨_, rfl, hE.symm, ht⟩) (fun q h => by cases h) dX9_apart_21
def m_utilizationOf (ld : Int32) (rt : Int32) : Int32 :=
  if ld = 0 then (0 : Int32) else (if rt = 0 then (9999 : Int32) else (spLet ((((1000 : Int64) * ld.toInt64) / rt.toInt64)) (fun x_3 => if (lg_cmp x_3 (9999 : Int64)) ≤ 0 then x_3.toInt32 else (9999 : Int32))))
set_option maxHeartbeats 1000000 in
set_option maxRecDepth 100000 in
theorem c_X9_utilizationOf (l : Launch) (dC : Nat → ClassId) (dI : Nat → Nat → Nat) (cyI : ClassId) (ld : Int32) (rt : Int32) : Met l yX9_utilizationOf wqX9_utilizationOf ({ frames := 0, cells := 0, slots := 0, locals := 0 } : Room) (va_Pc [.int ld, .int rt] (pB (dC, dI) [] [] eM)) (vp_Si (fun r => r = (m_utilizationOf ld rt))) 0 0 aF := by
  refine Met.ofW (cc := cX9_utilizationOf) (maxL := 4) (ret := (some .int)) (by decide) rfl ?_
  intro p e s m args below meth c s₁ B hml hv
  obtain ⟨rfl, hP, hK, he⟩ := hv
  have hx := B.exec
  have hb := B.bytes
  have hr := B.returns
  have hts := atoms_spec (ws := wqX9_utilizationOf) B.pre
  have hown : s.vm.findClass RX9 = some m.cls := findClass_of_methodNamed B.named
  have hlocks := B.notSynchronized
  have w_0 := hts (Cond.constantLong RX9 110 (1000)) (List.mem_cons_of_mem _ b_713)
  have w_1 := hts (Cond.constantLong RX9 112 (9999)) (List.mem_cons_of_mem _ b_731)
  have hS : va_S aF s.heap s.heap [] := va_S.rf
  have hP : va_P (dC, dI) vwCl [] s.heap := hP
  have hl := lv_entry ([.int ld, .int rt] : List Value) (n := 4) (Nat.le_of_ble_eq_true rfl)
  rw [lg_entry_eq]
  generalize (lg_sl ([.int ld, .int rt] : List Value) ++ List.replicate (4 - (lg_sl ([.int ld, .int rt] : List Value)).length) Slot.unset).toArray = ls at hl ⊢
  have hl : lv_has ls 4 [(0, .int ld), (1, .int rt)] := hl
  have hE : m_utilizationOf ld rt = m_utilizationOf ld rt := rfl
  refine lv_iload_n hx hb dX9_utilizationOf_0 rfl (lv_at hl 0 rfl) ?_
  refine lv_if_ne (tgt := 6) hx hb dX9_utilizationOf_1 (by decide) (fun c_1 => ?_) (fun c_1 => ?_)
  ·
    have hE := hE.trans (if_neg c_1)
    refine lv_iload_n hx hb dX9_utilizationOf_6 rfl (lv_at hl 1 rfl) ?_
    refine lv_if_ne (tgt := 14) hx hb dX9_utilizationOf_7 (by decide) (fun c_2 => ?_) (fun c_2 => ?_)
    ·
      have hE := hE.trans (if_neg c_2)
      refine lv_ldc2 (v := 1000) hx hb hown w_0 dX9_utilizationOf_14 ?_
      refine lv_iload_n hx hb dX9_utilizationOf_17 rfl (lv_at hl 0 rfl) ?_
      refine lv_i2l hx hb dX9_utilizationOf_18 rfl ?_
      refine lv_lmul hx hb dX9_utilizationOf_19 ?_
      refine lv_iload_n hx hb dX9_utilizationOf_20 rfl (lv_at hl 1 rfl) ?_
      refine lv_i2l hx hb dX9_utilizationOf_21 rfl ?_
      refine lv_ldiv hx hb dX9_utilizationOf_22 (ne0_l (by assumption)) ?_
      refine lv_topl (fun x_3 ex_3 => ?_)
      have hE := hE.trans (spLet_eq ex_3)
      refine lv_lstore_n (lv' := [(2, .long x_3), (0, .int ld), (1, .int rt)]) hx hb dX9_utilizationOf_23 rfl hl (by decide) rfl (fun ls hl => ?_)
      refine lv_lload_n hx hb dX9_utilizationOf_24 rfl (lv_at hl 0 rfl) ?_
      refine lv_ldc2 (v := 9999) hx hb hown w_1 dX9_utilizationOf_25 ?_
      refine W.lcmp hx hb dX9_utilizationOf_28 ?_
      refine lv_if_le (tgt := 38) hx hb dX9_utilizationOf_29 (by decide) (fun c_4 => ?_) (fun c_4 => ?_)
      ·
        have hE := hE.trans (if_pos c_4)
        refine lv_lload_n hx hb dX9_utilizationOf_38 rfl (lv_at hl 0 rfl) ?_
        refine lv_l2i hx hb dX9_utilizationOf_39 rfl ?_
        exact W.iret (v := x_3.toInt32) hx hb hr (fun t ht hW => ⟨_, rfl, hE.symm, ht⟩) (fun q h => by cases h) dX9_utilizationOf_40
      ·
        have hE := hE.trans (if_neg c_4)
        refine lv_sipush (v := 9999) hx hb dX9_utilizationOf_32 (by decide) ?_
        refine lv_goto (tgt := 40) hx hb dX9_utilizationOf_35 (by decide) ?_
        exact W.iret (v := (9999 : Int32)) hx hb hr (fun t ht hW => ⟨_, rfl, hE.symm, ht⟩) (fun q h => by cases h) dX9_utilizationOf_40
    ·
      have hE := hE.trans (if_pos c_2)
      refine lv_sipush (v := 9999) hx hb dX9_utilizationOf_10 (by decide) ?_
      exact W.iret (v := (9999 : Int32)) hx hb hr (fun t ht hW => ⟨_, rfl, hE.symm, ht⟩) (fun q h => by cases h) dX9_utilizationOf_13
  ·
    have hE := hE.trans (if_pos c_1)
    refine lv_iconst (v := 0) hx hb dX9_utilizationOf_4 (by decide) ?_
    exact W.iret (v := (0 : Int32)) hx hb hr (fun t ht hW => ⟨_, rfl, hE.symm, ht⟩) (fun q h => by cases h) dX9_utilizationOf_5
def m_firstMotion (let_ : Int32) : Int32 :=
  if let_ = (104 : Int32) then (0 : Int32) else (if let_ = (98 : Int32) then (2 : Int32) else (if let_ = (101 : Int32) then (4 : Int32) else (if let_ = (115 : Int32) then (6 : Int32) else (-1 : Int32))))
set_option maxHeartbeats 1000000 in
set_option maxRecDepth 100000 in
theorem c_X9_firstMotion (l : Launch) (dC : Nat → ClassId) (dI : Nat → Nat → Nat) (cyI : ClassId) (let_ : Int32) : Met l yX9_firstMotion wqX9_firstMotion ({ frames := 0, cells := 0, slots := 0, locals := 0 } : Room) (va_Pc [.int let_] (pB (dC, dI) [] [] eM)) (vp_Si (fun r => r = (m_firstMotion let_))) 0 0 aF := by
  refine Met.ofW (cc := cX9_firstMotion) (maxL := 1) (ret := (some .int)) (by decide) rfl ?_
  intro p e s m args below meth c s₁ B hml hv
  obtain ⟨rfl, hP, hK, he⟩ := hv
  have hx := B.exec
  have hb := B.bytes
  have hr := B.returns
  have hts := atoms_spec (ws := wqX9_firstMotion) B.pre
  have hown : s.vm.findClass RX9 = some m.cls := findClass_of_methodNamed B.named
  have hlocks := B.notSynchronized
  have hS : va_S aF s.heap s.heap [] := va_S.rf
  have hP : va_P (dC, dI) vwCl [] s.heap := hP
  have hl := lv_entry ([.int let_] : List Value) (n := 1) (Nat.le_of_ble_eq_true rfl)
  rw [lg_entry_eq]
  generalize (lg_sl ([.int let_] : List Value) ++ List.replicate (1 - (lg_sl ([.int let_] : List Value)).length) Slot.unset).toArray = ls at hl ⊢
  have hl : lv_has ls 1 [(0, .int let_)] := hl
  have hE : m_firstMotion let_ = m_firstMotion let_ := rfl
  refine lv_iload_n hx hb dX9_firstMotion_0 rfl (lv_at hl 0 rfl) ?_
  refine lv_bipush (v := 104) hx hb dX9_firstMotion_1 (by decide) ?_
  refine lv_icmp_ne (tgt := 10) hx hb dX9_firstMotion_3 (by decide) (fun c_1 => ?_) (fun c_1 => ?_)
  ·
    have hE := hE.trans (if_neg c_1)
    refine lv_iload_n hx hb dX9_firstMotion_10 rfl (lv_at hl 0 rfl) ?_
    refine lv_bipush (v := 98) hx hb dX9_firstMotion_11 (by decide) ?_
    refine lv_icmp_ne (tgt := 20) hx hb dX9_firstMotion_13 (by decide) (fun c_2 => ?_) (fun c_2 => ?_)
    ·
      have hE := hE.trans (if_neg c_2)
      refine lv_iload_n hx hb dX9_firstMotion_20 rfl (lv_at hl 0 rfl) ?_
      refine lv_bipush (v := 101) hx hb dX9_firstMotion_21 (by decide) ?_
      refine lv_icmp_ne (tgt := 30) hx hb dX9_firstMotion_23 (by decide) (fun c_3 => ?_) (fun c_3 => ?_)
      ·
        have hE := hE.trans (if_neg c_3)
        refine lv_iload_n hx hb dX9_firstMotion_30 rfl (lv_at hl 0 rfl) ?_
        refine lv_bipush (v := 115) hx hb dX9_firstMotion_31 (by decide) ?_
        refine lv_icmp_ne (tgt := 41) hx hb dX9_firstMotion_33 (by decide) (fun c_4 => ?_) (fun c_4 => ?_)
        ·
          have hE := hE.trans (if_neg c_4)
          refine lv_iconst (v := -1) hx hb dX9_firstMotion_41 (by decide) ?_
          exact W.iret (v := (-1 : Int32)) hx hb hr (fun t ht hW => ⟨_, rfl, hE.symm, ht⟩) (fun q h => by cases h) dX9_firstMotion_42
        ·
          have hE := hE.trans (if_pos c_4)
          refine lv_bipush (v := 6) hx hb dX9_firstMotion_36 (by decide) ?_
          refine lv_goto (tgt := 42) hx hb dX9_firstMotion_38 (by decide) ?_
          exact W.iret (v := (6 : Int32)) hx hb hr (fun t ht hW => ⟨_, rfl, hE.symm, ht⟩) (fun q h => by cases h) dX9_firstMotion_42
      ·
        have hE := hE.trans (if_pos c_3)
        refine lv_iconst (v := 4) hx hb dX9_firstMotion_26 (by decide) ?_
        refine lv_goto (tgt := 42) hx hb dX9_firstMotion_27 (by decide) ?_
        exact W.iret (v := (4 : Int32)) hx hb hr (fun t ht hW => ⟨_, rfl, hE.symm, ht⟩) (fun q h => by cases h) dX9_firstMotion_42
    ·
      have hE := hE.trans (if_pos c_2)
      refine lv_iconst (v := 2) hx hb dX9_firstMotion_16 (by decide) ?_
      refine lv_goto (tgt := 42) hx hb dX9_firstMotion_17 (by decide) ?_
      exact W.iret (v := (2 : Int32)) hx hb hr (fun t ht hW => ⟨_, rfl, hE.symm, ht⟩) (fun q h => by cases h) dX9_firstMotion_42
  ·
    have hE := hE.trans (if_pos c_1)
    refine lv_iconst (v := 0) hx hb dX9_firstMotion_6 (by decide) ?_
    refine lv_goto (tgt := 42) hx hb dX9_firstMotion_7 (by decide) ?_
    exact W.iret (v := (0 : Int32)) hx hb hr (fun t ht hW => ⟨_, rfl, hE.symm, ht⟩) (fun q h => by cases h) dX9_firstMotion_42
def m_netLoad (mm : Int32) (zs : Nat → Int32) : Int32 :=
  spLet (m_greater (0 : Int32) (mm - (zs 5))) (fun r_1 => r_1)
set_option maxHeartbeats 1000000 in
set_option maxRecDepth 100000 in
theorem c_X9_netLoad (l : Launch) (dC : Nat → ClassId) (dI : Nat → Nat → Nat) (cyI : ClassId) (q0 : Nat) (q1 : Nat) (q2 : Nat) (q3 : Nat) (q4 : Nat) (q5 : Nat) (q6 : Nat) (svc : Int32) (tl : Int32) (cde : Int32) (mm : Int32) (mr : Int32) (ati : Int32) (ors : Int32) (zs : Nat → Int32) (zv : Nat → Int32) (zt : Nat → Int32) (zp : Nat → Int32) (zm : Nat → Int32) (zk : Nat → Int32) : Met l yX9_netLoad wqX9_netLoad ({ frames := 1, cells := 0, slots := 0, locals := 21 } : Room) (va_Pc [.ref q0] (pB (dC, dI) [(q0, .inr (9, [.ref q1, .ref q2, .int svc, .ref q3, .int tl, .int cde, .int mm, .int mr, .ref q4, .int ati, .int ors, .ref q5, .ref q6])), (q1, .inl (cyI, 246, .inl zs)), (q2, .inl (cyI, 984, .inl zv)), (q3, .inl (cyI, 80, .inl zt)), (q4, .inl (cyI, 5, .inl zp)), (q5, .inl (cyI, 40, .inl zm)), (q6, .inl (cyI, 40, .inl zk))] [(cyI, .int)] eM)) (vp_Si (fun r => r = (m_netLoad mm zs))) 0 0 aF := by
  refine Met.ofW (cc := cX9_netLoad) (maxL := 1) (ret := (some .int)) (by decide) rfl ?_
  intro p e s m args below meth c s₁ B hml hv
  obtain ⟨rfl, hP, hK, he⟩ := hv
  have hx := B.exec
  have hb := B.bytes
  have hr := B.returns
  have hts := atoms_spec (ws := wqX9_netLoad) B.pre
  have hown : s.vm.findClass RX9 = some m.cls := findClass_of_methodNamed B.named
  have hlocks := B.notSynchronized
  have w_0 := hts (Cond.fieldLink RX9 78 "CraneLimiterModel" "measuredMass" "I") (List.mem_cons_of_mem _ b_682)
  have w_1 := hts (Cond.fieldLink RX9 7 "CraneLimiterModel" "s" "[I") (List.mem_cons_of_mem _ b_93)
  have i_X9 : ∀ w ∈ u_ws RX9 TX9 13, w ∈ wqX9_netLoad := fun w h => List.mem_cons_of_mem _ (bX9 w h)
  have hS : va_S aF s.heap s.heap [] := va_S.rf
  have hP : va_P (dC, dI) vwCl [(q0, .inr (9, [.ref q1, .ref q2, .int svc, .ref q3, .int tl, .int cde, .int mm, .int mr, .ref q4, .int ati, .int ors, .ref q5, .ref q6])), (q1, .inl (cyI, 246, .inl zs)), (q2, .inl (cyI, 984, .inl zv)), (q3, .inl (cyI, 80, .inl zt)), (q4, .inl (cyI, 5, .inl zp)), (q5, .inl (cyI, 40, .inl zm)), (q6, .inl (cyI, 40, .inl zk))] s.heap := hP
  have hl := lv_entry ([.ref q0] : List Value) (n := 1) (Nat.le_of_ble_eq_true rfl)
  rw [lg_entry_eq]
  generalize (lg_sl ([.ref q0] : List Value) ++ List.replicate (1 - (lg_sl ([.ref q0] : List Value)).length) Slot.unset).toArray = ls at hl ⊢
  have hl : lv_has ls 1 [(0, .ref q0)] := hl
  have hE : m_netLoad mm zs = m_netLoad mm zs := rfl
  refine lv_iconst (v := 0) hx hb dX9_netLoad_0 (by decide) ?_
  refine lv_aload_n hx hb dX9_netLoad_1 rfl (lv_at hl 0 rfl) ?_
  refine va_get (D := (dC, dI)) (ci := 9) (v := .int mm) (C := RX9) (T := TX9) (N := 13) hx hb hts i_X9 hown hK hP 0 rfl rfl 6 (by decide) w_0 (fun _ h9 => h9) rfl dX9_netLoad_2 ?_
  refine lv_aload_n hx hb dX9_netLoad_5 rfl (lv_at hl 0 rfl) ?_
  refine va_get (D := (dC, dI)) (ci := 9) (v := .ref q1) (C := RX9) (T := TX9) (N := 13) hx hb hts i_X9 hown hK hP 0 rfl rfl 0 (by decide) w_1 (fun _ h9 => h9) rfl dX9_netLoad_6 ?_
  refine lv_iconst (v := 5) hx hb dX9_netLoad_9 (by decide) ?_
  refine ra_ld hx hb hK hP 1 0 rfl rfl (j := 5) (rfl : (5 : Int32) = nI 5) (by omega) (by omega) dX9_netLoad_10 ?_
  refine lv_isub hx hb dX9_netLoad_11 ?_
  refine vp_callSi (W.runS (As := [.int (0 : Int32), .int (mm - (zs 5))]) (rest := []) ⟨hx, hb, hml, hown, hts⟩ (c_X9_greater l dC dI cyI (0 : Int32) (mm - (zs 5))) (va_cwS 2 hts (gBS b_393 b_394 b_5 b_395) rfl rfl rfl (by decide +kernel) ⟨Nat.le_of_ble_eq_true rfl, Nat.le_of_ble_eq_true rfl⟩) (pre_s eM_ok he hS (hP.sub (ws' := []) [] rfl) (hK.sub (tys' := []) [] rfl)) rfl rfl hl.1 rfl (lv_room (Nat.le_of_ble_eq_true rfl)) dX9_netLoad_12 ⟨Nat.zero_le _, Nat.zero_le _⟩) (fun r_1 hr_1 => ?_)
  have hE := hE.trans (spLet_eq hr_1)
  exact W.iret (v := r_1) hx hb hr (fun t ht hW => ⟨_, rfl, hE.symm, ht⟩) (fun q h => by cases h) dX9_netLoad_15
def m_speed (zs : Nat → Int32) (fast : Int32) (slow : Int32) : Int32 :=
  if (zs 7) = 0 then fast else slow
set_option maxHeartbeats 1000000 in
set_option maxRecDepth 100000 in
theorem c_X9_speed (l : Launch) (dC : Nat → ClassId) (dI : Nat → Nat → Nat) (cyI : ClassId) (q0 : Nat) (q1 : Nat) (q2 : Nat) (q3 : Nat) (q4 : Nat) (q5 : Nat) (q6 : Nat) (svc : Int32) (tl : Int32) (cde : Int32) (mm : Int32) (mr : Int32) (ati : Int32) (ors : Int32) (zs : Nat → Int32) (zv : Nat → Int32) (zt : Nat → Int32) (zp : Nat → Int32) (zm : Nat → Int32) (zk : Nat → Int32) (fast : Int32) (slow : Int32) : Met l yX9_speed wqX9_speed ({ frames := 0, cells := 0, slots := 0, locals := 0 } : Room) (va_Pc [.ref q0, .int fast, .int slow] (pB (dC, dI) [(q0, .inr (9, [.ref q1, .ref q2, .int svc, .ref q3, .int tl, .int cde, .int mm, .int mr, .ref q4, .int ati, .int ors, .ref q5, .ref q6])), (q1, .inl (cyI, 246, .inl zs)), (q2, .inl (cyI, 984, .inl zv)), (q3, .inl (cyI, 80, .inl zt)), (q4, .inl (cyI, 5, .inl zp)), (q5, .inl (cyI, 40, .inl zm)), (q6, .inl (cyI, 40, .inl zk))] [(cyI, .int)] eM)) (vp_Si (fun r => r = (m_speed zs fast slow))) 0 0 aF := by
  refine Met.ofW (cc := cX9_speed) (maxL := 3) (ret := (some .int)) (by decide) rfl ?_
  intro p e s m args below meth c s₁ B hml hv
  obtain ⟨rfl, hP, hK, he⟩ := hv
  have hx := B.exec
  have hb := B.bytes
  have hr := B.returns
  have hts := atoms_spec (ws := wqX9_speed) B.pre
  have hown : s.vm.findClass RX9 = some m.cls := findClass_of_methodNamed B.named
  have hlocks := B.notSynchronized
  have w_0 := hts (Cond.fieldLink RX9 7 "CraneLimiterModel" "s" "[I") (List.mem_cons_of_mem _ b_93)
  have i_X9 : ∀ w ∈ u_ws RX9 TX9 13, w ∈ wqX9_speed := fun w h => List.mem_cons_of_mem _ (bX9 w h)
  have hS : va_S aF s.heap s.heap [] := va_S.rf
  have hP : va_P (dC, dI) vwCl [(q0, .inr (9, [.ref q1, .ref q2, .int svc, .ref q3, .int tl, .int cde, .int mm, .int mr, .ref q4, .int ati, .int ors, .ref q5, .ref q6])), (q1, .inl (cyI, 246, .inl zs)), (q2, .inl (cyI, 984, .inl zv)), (q3, .inl (cyI, 80, .inl zt)), (q4, .inl (cyI, 5, .inl zp)), (q5, .inl (cyI, 40, .inl zm)), (q6, .inl (cyI, 40, .inl zk))] s.heap := hP
  have hl := lv_entry ([.ref q0, .int fast, .int slow] : List Value) (n := 3) (Nat.le_of_ble_eq_true rfl)
  rw [lg_entry_eq]
  generalize (lg_sl ([.ref q0, .int fast, .int slow] : List Value) ++ List.replicate (3 - (lg_sl ([.ref q0, .int fast, .int slow] : List Value)).length) Slot.unset).toArray = ls at hl ⊢
  have hl : lv_has ls 3 [(0, .ref q0), (1, .int fast), (2, .int slow)] := hl
  have hE : m_speed zs fast slow = m_speed zs fast slow := rfl
  refine lv_aload_n hx hb dX9_speed_0 rfl (lv_at hl 0 rfl) ?_
  refine va_get (D := (dC, dI)) (ci := 9) (v := .ref q1) (C := RX9) (T := TX9) (N := 13) hx hb hts i_X9 hown hK hP 0 rfl rfl 0 (by decide) w_0 (fun _ h9 => h9) rfl dX9_speed_1 ?_
  refine lv_bipush (v := 7) hx hb dX9_speed_4 (by decide) ?_
  refine ra_ld hx hb hK hP 1 0 rfl rfl (j := 7) (rfl : (7 : Int32) = nI 7) (by omega) (by omega) dX9_speed_6 ?_
  refine lv_if_ne (tgt := 14) hx hb dX9_speed_7 (by decide) (fun c_1 => ?_) (fun c_1 => ?_)
  ·
    have hE := hE.trans (if_neg c_1)
    refine lv_iload_n hx hb dX9_speed_14 rfl (lv_at hl 2 rfl) ?_
    exact W.iret (v := slow) hx hb hr (fun t ht hW => ⟨_, rfl, hE.symm, ht⟩) (fun q h => by cases h) dX9_speed_15
  ·
    have hE := hE.trans (if_pos c_1)
    refine lv_iload_n hx hb dX9_speed_10 rfl (lv_at hl 1 rfl) ?_
    refine lv_goto (tgt := 15) hx hb dX9_speed_11 (by decide) ?_
    exact W.iret (v := fast) hx hb hr (fun t ht hW => ⟨_, rfl, hE.symm, ht⟩) (fun q h => by cases h) dX9_speed_15
def m_thrown (cde : Int32) : Int32 :=
  cde
set_option maxHeartbeats 1000000 in
set_option maxRecDepth 100000 in
theorem c_X9_thrown (l : Launch) (dC : Nat → ClassId) (dI : Nat → Nat → Nat) (cyI : ClassId) (q0 : Nat) (q1 : Nat) (q2 : Nat) (q3 : Nat) (q4 : Nat) (q5 : Nat) (q6 : Nat) (svc : Int32) (tl : Int32) (cde : Int32) (mm : Int32) (mr : Int32) (ati : Int32) (ors : Int32) (zs : Nat → Int32) (zv : Nat → Int32) (zt : Nat → Int32) (zp : Nat → Int32) (zm : Nat → Int32) (zk : Nat → Int32) : Met l yX9_thrown wqX9_thrown ({ frames := 0, cells := 0, slots := 0, locals := 0 } : Room) (va_Pc [.ref q0] (pB (dC, dI) [(q0, .inr (9, [.ref q1, .ref q2, .int svc, .ref q3, .int tl, .int cde, .int mm, .int mr, .ref q4, .int ati, .int ors, .ref q5, .ref q6])), (q1, .inl (cyI, 246, .inl zs)), (q2, .inl (cyI, 984, .inl zv)), (q3, .inl (cyI, 80, .inl zt)), (q4, .inl (cyI, 5, .inl zp)), (q5, .inl (cyI, 40, .inl zm)), (q6, .inl (cyI, 40, .inl zk))] [(cyI, .int)] eM)) (vp_Si (fun r => r = (m_thrown cde))) 0 0 aF := by
  refine Met.ofW (cc := cX9_thrown) (maxL := 1) (ret := (some .int)) (by decide) rfl ?_
  intro p e s m args below meth c s₁ B hml hv
  obtain ⟨rfl, hP, hK, he⟩ := hv
  have hx := B.exec
  have hb := B.bytes
  have hr := B.returns
  have hts := atoms_spec (ws := wqX9_thrown) B.pre
  have hown : s.vm.findClass RX9 = some m.cls := findClass_of_methodNamed B.named
  have hlocks := B.notSynchronized
  have w_0 := hts (Cond.fieldLink RX9 28 "CraneLimiterModel" "code" "I") (List.mem_cons_of_mem _ b_181)
  have i_X9 : ∀ w ∈ u_ws RX9 TX9 13, w ∈ wqX9_thrown := fun w h => List.mem_cons_of_mem _ (bX9 w h)
  have hS : va_S aF s.heap s.heap [] := va_S.rf
  have hP : va_P (dC, dI) vwCl [(q0, .inr (9, [.ref q1, .ref q2, .int svc, .ref q3, .int tl, .int cde, .int mm, .int mr, .ref q4, .int ati, .int ors, .ref q5, .ref q6])), (q1, .inl (cyI, 246, .inl zs)), (q2, .inl (cyI, 984, .inl zv)), (q3, .inl (cyI, 80, .inl zt)), (q4, .inl (cyI, 5, .inl zp)), (q5, .inl (cyI, 40, .inl zm)), (q6, .inl (cyI, 40, .inl zk))] s.heap := hP
  have hl := lv_entry ([.ref q0] : List Value) (n := 1) (Nat.le_of_ble_eq_true rfl)
  rw [lg_entry_eq]
  generalize (lg_sl ([.ref q0] : List Value) ++ List.replicate (1 - (lg_sl ([.ref q0] : List Value)).length) Slot.unset).toArray = ls at hl ⊢
  have hl : lv_has ls 1 [(0, .ref q0)] := hl
  have hE : m_thrown cde = m_thrown cde := rfl
  refine lv_aload_n hx hb dX9_thrown_0 rfl (lv_at hl 0 rfl) ?_
  refine va_get (D := (dC, dI)) (ci := 9) (v := .int cde) (C := RX9) (T := TX9) (N := 13) hx hb hts i_X9 hown hK hP 0 rfl rfl 5 (by decide) w_0 (fun _ h9 => h9) rfl dX9_thrown_1 ?_
  exact W.iret (v := cde) hx hb hr (fun t ht hW => ⟨_, rfl, hE.symm, ht⟩) (fun q h => by cases h) dX9_thrown_4

