/-! THE CLAIM OUT OF ONE WALK OF THE LAW'S BODY. Your part is whole_start (and what it stands on); all else here is the same for every law, but numbers. -/
def R_law : String := "CraneLimiterLaw"
def lw_P (b : Addr) (xs : List Int32) (args : Array Value) (s : State) : Prop := args = #[.ref b] ∧ s.IntsAt b xs ∧ xs.length ≤ 2560 ∧ (Jvm.Cond.and given_1 narrow_1).before args s = true
def lw_Q (_ : Array Value) (s : State) (o : Outcome) (t : State) : Prop := o = .returned (some (.int 1)) ∧ Framed s o t [] 601024 7293034
def lw_Z (below : List Frame) (a : Array Value) (s : State) : State → Prop := fun t => ∃ o, t.status = .running ∧ Ended t below o ∧ lw_Q a s o t
/-- the law's own end, with 1 on the stack, nothing written that was there before, its room as the claim has it -/
theorem lw_ret {p : Program} {l : Launch} {e : Env} {s : State} {m : MethodId} {below : List Frame} {meth : Method} {c : Code} {b : Nat} (hx : p.tables.exec = Jvm.exec) (hb : c.code = code) (hr : meth.sig.returnType = ret) (hlocks : meth.locks = false) {pc : Nat} {H : Heap} {ls : Array Slot} (hdg : decode code pc = .ok (.ireturn, 1)) : W p l e room_1 s m #[Value.ref b] below meth c H [] 601024 7293034 (lw_Z below #[Value.ref b] s) (F0 m pc ls [.int 1]) := by
  intro T hT X
  obtain ⟨fs, hret, hrun, hended, hW, hframe⟩ := X.leave (v := some (.int 1)) (hlocks := hlocks) (fun h => by rw [hr] at h; cases h)
  have hmeth' : T.vm.method? m = some meth := X.method'
  refine ⟨T.setFrames fs, ?_, .returned (some (.int 1)), hrun, hended, rfl, ⟨_, rfl⟩, hW, hframe⟩
  jvm_step X.here [X.here.top, hx, hb, hdg, hmeth', hr, ret, narrow_b1]
  (try refine ⟨rfl, ?_⟩); (try refine ⟨rfl, ?_⟩)
  first | (intro acts; rw [hret _ acts rfl rfl rfl]) | rw [hret _ _ rfl rfl rfl]
  exact Steps.refl _
/-- what holds at the law's entry: the machine, the code, the tables' words (any of lw_tbl by 'hts w (by decide +kernel)'), the script of L ints xs at the cell b, what the Statement gives of the start (any of its parts by flat_of_before) -/
def lw_At (p : Program) (s : State) (m : MethodId) (meth : Method) (c : Code) (b L : Nat) (xs : Nat → Int32) : Prop :=
  p.tables.exec = Jvm.exec ∧ c.code = code ∧ meth.sig.returnType = ret ∧ c.maxLocals = 7 ∧ s.vm.findClass R_law = some m.cls ∧ (∀ w ∈ lw_tbl, w.before #[Value.ref b] s = true) ∧ va_X b L xs s s.heap ∧ b < s.heap.size ∧ meth.locks = false ∧ (Jvm.Cond.and given_1 narrow_1).before #[Value.ref b] s = true
section LL
variable {p : Program} {l : Launch} {e : Env} {s : State} {m : MethodId} {b L : Nat} {xs : Nat → Int32} {below : List Frame} {meth : Method} {c : Code} {dC : Nat → ClassId} {dI : Nat → Nat → Nat} {cyI cyS cyJ : ClassId} {qo : Nat} {Q aX aS : Nat → Nat} {n0 : Nat}
set_option maxRecDepth 100000 in
set_option maxHeartbeats 4000000 in
/-- the loop: j calls are done -/
theorem law_loop (C0 : LCx p l s m meth c b L xs dC dI cyI cyS cyJ) (hlocks : meth.locks = false) : ∀ (N j : Nat), L < 5 * j + 5 * N → 5 * j ≤ 2560 → ∀ (H : Heap) (locs : List Loc) (of : Nat → Int64) (v : MS) (cc : CS) (ls : Array Slot), va_P (dC, dI) vwCl (LW cyI cyS cyJ qo Q aX aS of v cc) H → va_D (lA s) (LW cyI cyS cyJ qo Q aX aS of v cc) → va_S (lA s) s.heap H locs → lv_has ls 7 (lwL b (aX 0) (Q 0) qo (5 * j)) → LR (2574 * j) cc v → W p l e room_1 s m #[Value.ref b] below meth c H locs (100 + 20 * j) (3000 + 300 * j) (lw_Z below #[Value.ref b] s) (F0 m 23 ls []) := by
  intro N
  induction N with
  | zero =>
    intro j hN hj H locs of v cc ls hP hD hS hl hR
    obtain ⟨hx, hb, hr, hml, hown, hts, hX, hbl, hL, hst, hK, he⟩ := id C0
    have hend : ∀ ls : Array Slot, W p l e room_1 s m #[Value.ref b] below meth c H locs (100 + 20 * j) (3000 + 300 * j) (lw_Z below #[Value.ref b] s) (F0 m 1790 ls []) := fun ls => by
      refine lv_iconst (v := 1) hx hb dL_law_1790 (by decide) ?_
      refine va_forget (fun q hq => hS.2.2 q hq) ?_
      refine W.widen (k := 601024) (n := 7293034) (by omega) (by omega) ?_
      exact lw_ret hx hb hr hlocks dL_law_1791
    refine lv_iload hx hb dL_law_23 (lv_at hl 0 rfl) ?_
    refine lv_aload_n hx hb dL_law_25 rfl (lv_at hl 4 rfl) ?_
    refine va_slen hx hb hX hbl (Nat.not_le.mpr hbl) hS dL_law_26 ?_
    refine lv_iconst (v := nI 5) hx hb dL_law_27 rfl ?_
    refine lv_isub hx hb dL_law_28 ?_
    have hcmp : (nI L - nI 5).toInt = (L : Int) - 5 := pk_sub_toInt (by omega) (by decide)
    have hij : (nI (5 * j)).toInt = ((5 * j : Nat) : Int) := nI_toInt (by omega)
    refine lv_icmp_gt (tgt := 1790) hx hb dL_law_29 (by decide) (fun _ => hend ls) (fun h => absurd ?_ h)
    rw [Int32.lt_iff_toInt_lt, hij]
    show (nI L - nI 5).toInt < _
    rw [hcmp]
    omega
  | succ N ih =>
    intro j hN hj H locs of v cc ls hP hD hS hl hR
    obtain ⟨hx, hb, hr, hml, hown, hts, hX, hbl, hL, hst, hK, he⟩ := id C0
    have hend : ∀ ls : Array Slot, W p l e room_1 s m #[Value.ref b] below meth c H locs (100 + 20 * j) (3000 + 300 * j) (lw_Z below #[Value.ref b] s) (F0 m 1790 ls []) := fun ls => by
      refine lv_iconst (v := 1) hx hb dL_law_1790 (by decide) ?_
      refine va_forget (fun q hq => hS.2.2 q hq) ?_
      refine W.widen (k := 601024) (n := 7293034) (by omega) (by omega) ?_
      exact lw_ret hx hb hr hlocks dL_law_1791
    refine lv_iload hx hb dL_law_23 (lv_at hl 0 rfl) ?_
    refine lv_aload_n hx hb dL_law_25 rfl (lv_at hl 4 rfl) ?_
    refine va_slen hx hb hX hbl (Nat.not_le.mpr hbl) hS dL_law_26 ?_
    refine lv_iconst (v := nI 5) hx hb dL_law_27 rfl ?_
    refine lv_isub hx hb dL_law_28 ?_
    have hcmp : (nI L - nI 5).toInt = (L : Int) - 5 := pk_sub_toInt (by omega) (by decide)
    have hij : (nI (5 * j)).toInt = ((5 * j : Nat) : Int) := nI_toInt (by omega)
    refine lv_icmp_gt (tgt := 1790) hx hb dL_law_29 (by decide) (fun _ => hend ls) (fun h => ?_)
    have hi : 5 * j + 5 ≤ L := by
      have h2 := mt Int32.lt_iff_toInt_lt.mpr h
      rw [hij] at h2
      replace h2 : ¬ (nI L - nI 5).toInt < ((5 * j : Nat) : Int) := h2
      rw [hcmp] at h2
      omega
    refine lv_aload_n hx hb dL_law_32 rfl (lv_at hl 4 rfl) ?_
    refine lv_iload hx hb dL_law_33 (lv_at hl 0 rfl) ?_
    refine va_sld hx hb hX hbl (Nat.not_le.mpr hbl) hS (vp_in_nI (by omega) (by omega)) dL_law_35 ?_
    rw [nI_clamp (by omega)]
    refine lv_bipush (v := 31) hx hb dL_law_36 (by decide) ?_
    refine lv_iand hx hb dL_law_38 ?_
    have hk : LK p l e s m below meth c b dC dI cyI cyS cyJ qo Q aX aS (lw_Z below #[Value.ref b] s) (5 * j) (2574 * j + 2574) (100 + 20 * j + 20) (3000 + 300 * j + 300) := by
      intro H locs of v cc ls hP hD hS hl hR
      refine lv_iinc (v := nI (5 * (j + 1))) (lv' := lwL b (aX 0) (Q 0) qo (5 * (j + 1))) hx hb dL_law_1784 hl (k := 0) rfl (by rw [show (5 : Int) = ((5 : Nat) : Int) from rfl, ninc]; rfl) (by decide) rfl (fun ls hl => ?_)
      refine lv_goto (tgt := 23) hx hb dL_law_1787 (by decide) ?_
      exact ih (j + 1) (by omega) (by omega) H locs of v cc ls hP hD hS hl hR
    generalize xs (5 * j) &&& 31 = x
    by_cases c_0 : x = 0
    · refine lv_tableIn (tgt := 172) (off := 133) hx hb dL_law_39 (by rw [c_0]; decide) (by rw [c_0]; decide) (by rw [c_0]; rfl) (by decide) ?_
      exact lc_0 C0 H locs of v cc ls (5 * j) (2574 * j) (100 + 20 * j) (3000 + 300 * j) hP hD hS hl hR (by omega) hi (by omega) (by omega) hk
    by_cases c_1 : x = 1
    · refine lv_tableIn (tgt := 240) (off := 201) hx hb dL_law_39 (by rw [c_1]; decide) (by rw [c_1]; decide) (by rw [c_1]; rfl) (by decide) ?_
      exact lc_1 C0 H locs of v cc ls (5 * j) (2574 * j) (100 + 20 * j) (3000 + 300 * j) hP hD hS hl hR (by omega) hi (by omega) (by omega) hk
    by_cases c_2 : x = 2
    · refine lv_tableIn (tgt := 281) (off := 242) hx hb dL_law_39 (by rw [c_2]; decide) (by rw [c_2]; decide) (by rw [c_2]; rfl) (by decide) ?_
      exact lc_2 C0 H locs of v cc ls (5 * j) (2574 * j) (100 + 20 * j) (3000 + 300 * j) hP hD hS hl hR (by omega) hi (by omega) (by omega) hk
    by_cases c_3 : x = 3
    · refine lv_tableIn (tgt := 373) (off := 334) hx hb dL_law_39 (by rw [c_3]; decide) (by rw [c_3]; decide) (by rw [c_3]; rfl) (by decide) ?_
      exact lc_3 C0 H locs of v cc ls (5 * j) (2574 * j) (100 + 20 * j) (3000 + 300 * j) hP hD hS hl hR (by omega) hi (by omega) (by omega) hk
    by_cases c_4 : x = 4
    · refine lv_tableIn (tgt := 441) (off := 402) hx hb dL_law_39 (by rw [c_4]; decide) (by rw [c_4]; decide) (by rw [c_4]; rfl) (by decide) ?_
      exact lc_4 C0 H locs of v cc ls (5 * j) (2574 * j) (100 + 20 * j) (3000 + 300 * j) hP hD hS hl hR (by omega) hi (by omega) (by omega) hk
    by_cases c_5 : x = 5
    · refine lv_tableIn (tgt := 521) (off := 482) hx hb dL_law_39 (by rw [c_5]; decide) (by rw [c_5]; decide) (by rw [c_5]; rfl) (by decide) ?_
      exact lc_5 C0 H locs of v cc ls (5 * j) (2574 * j) (100 + 20 * j) (3000 + 300 * j) hP hD hS hl hR (by omega) hi (by omega) (by omega) hk
    by_cases c_6 : x = 6
    · refine lv_tableIn (tgt := 613) (off := 574) hx hb dL_law_39 (by rw [c_6]; decide) (by rw [c_6]; decide) (by rw [c_6]; rfl) (by decide) ?_
      exact lc_6 C0 H locs of v cc ls (5 * j) (2574 * j) (100 + 20 * j) (3000 + 300 * j) hP hD hS hl hR (by omega) hi (by omega) (by omega) hk
    by_cases c_7 : x = 7
    · refine lv_tableIn (tgt := 669) (off := 630) hx hb dL_law_39 (by rw [c_7]; decide) (by rw [c_7]; decide) (by rw [c_7]; rfl) (by decide) ?_
      exact lc_7 C0 H locs of v cc ls (5 * j) (2574 * j) (100 + 20 * j) (3000 + 300 * j) hP hD hS hl hR (by omega) hi (by omega) (by omega) hk
    by_cases c_8 : x = 8
    · refine lv_tableIn (tgt := 749) (off := 710) hx hb dL_law_39 (by rw [c_8]; decide) (by rw [c_8]; decide) (by rw [c_8]; rfl) (by decide) ?_
      exact lc_8 C0 H locs of v cc ls (5 * j) (2574 * j) (100 + 20 * j) (3000 + 300 * j) hP hD hS hl hR (by omega) hi (by omega) (by omega) hk
    by_cases c_9 : x = 9
    · refine lv_tableIn (tgt := 805) (off := 766) hx hb dL_law_39 (by rw [c_9]; decide) (by rw [c_9]; decide) (by rw [c_9]; rfl) (by decide) ?_
      exact lc_9 C0 H locs of v cc ls (5 * j) (2574 * j) (100 + 20 * j) (3000 + 300 * j) hP hD hS hl hR (by omega) hi (by omega) (by omega) hk
    by_cases c_10 : x = 10
    · refine lv_tableIn (tgt := 861) (off := 822) hx hb dL_law_39 (by rw [c_10]; decide) (by rw [c_10]; decide) (by rw [c_10]; rfl) (by decide) ?_
      exact lc_10 C0 H locs of v cc ls (5 * j) (2574 * j) (100 + 20 * j) (3000 + 300 * j) hP hD hS hl hR (by omega) hi (by omega) (by omega) hk
    by_cases c_11 : x = 11
    · refine lv_tableIn (tgt := 917) (off := 878) hx hb dL_law_39 (by rw [c_11]; decide) (by rw [c_11]; decide) (by rw [c_11]; rfl) (by decide) ?_
      exact lc_11 C0 H locs of v cc ls (5 * j) (2574 * j) (100 + 20 * j) (3000 + 300 * j) hP hD hS hl hR (by omega) hi (by omega) (by omega) hk
    by_cases c_12 : x = 12
    · refine lv_tableIn (tgt := 973) (off := 934) hx hb dL_law_39 (by rw [c_12]; decide) (by rw [c_12]; decide) (by rw [c_12]; rfl) (by decide) ?_
      exact lc_12 C0 H locs of v cc ls (5 * j) (2574 * j) (100 + 20 * j) (3000 + 300 * j) hP hD hS hl hR (by omega) hi (by omega) (by omega) hk
    by_cases c_13 : x = 13
    · refine lv_tableIn (tgt := 1041) (off := 1002) hx hb dL_law_39 (by rw [c_13]; decide) (by rw [c_13]; decide) (by rw [c_13]; rfl) (by decide) ?_
      exact lc_13 C0 H locs of v cc ls (5 * j) (2574 * j) (100 + 20 * j) (3000 + 300 * j) hP hD hS hl hR (by omega) hi (by omega) (by omega) hk
    by_cases c_14 : x = 14
    · refine lv_tableIn (tgt := 1054) (off := 1015) hx hb dL_law_39 (by rw [c_14]; decide) (by rw [c_14]; decide) (by rw [c_14]; rfl) (by decide) ?_
      exact lc_14 C0 H locs of v cc ls (5 * j) (2574 * j) (100 + 20 * j) (3000 + 300 * j) hP hD hS hl hR (by omega) hi (by omega) (by omega) hk
    by_cases c_15 : x = 15
    · refine lv_tableIn (tgt := 1110) (off := 1071) hx hb dL_law_39 (by rw [c_15]; decide) (by rw [c_15]; decide) (by rw [c_15]; rfl) (by decide) ?_
      exact lc_15 C0 H locs of v cc ls (5 * j) (2574 * j) (100 + 20 * j) (3000 + 300 * j) hP hD hS hl hR (by omega) hi (by omega) (by omega) hk
    by_cases c_16 : x = 16
    · refine lv_tableIn (tgt := 1166) (off := 1127) hx hb dL_law_39 (by rw [c_16]; decide) (by rw [c_16]; decide) (by rw [c_16]; rfl) (by decide) ?_
      exact lc_16 C0 H locs of v cc ls (5 * j) (2574 * j) (100 + 20 * j) (3000 + 300 * j) hP hD hS hl hR (by omega) hi (by omega) (by omega) hk
    by_cases c_17 : x = 17
    · refine lv_tableIn (tgt := 1222) (off := 1183) hx hb dL_law_39 (by rw [c_17]; decide) (by rw [c_17]; decide) (by rw [c_17]; rfl) (by decide) ?_
      exact lc_17 C0 H locs of v cc ls (5 * j) (2574 * j) (100 + 20 * j) (3000 + 300 * j) hP hD hS hl hR (by omega) hi (by omega) (by omega) hk
    by_cases c_18 : x = 18
    · refine lv_tableIn (tgt := 1302) (off := 1263) hx hb dL_law_39 (by rw [c_18]; decide) (by rw [c_18]; decide) (by rw [c_18]; rfl) (by decide) ?_
      exact lc_18 C0 H locs of v cc ls (5 * j) (2574 * j) (100 + 20 * j) (3000 + 300 * j) hP hD hS hl hR (by omega) hi (by omega) (by omega) hk
    by_cases c_19 : x = 19
    · refine lv_tableIn (tgt := 1358) (off := 1319) hx hb dL_law_39 (by rw [c_19]; decide) (by rw [c_19]; decide) (by rw [c_19]; rfl) (by decide) ?_
      exact lc_19 C0 H locs of v cc ls (5 * j) (2574 * j) (100 + 20 * j) (3000 + 300 * j) hP hD hS hl hR (by omega) hi (by omega) (by omega) hk
    by_cases c_20 : x = 20
    · refine lv_tableIn (tgt := 1438) (off := 1399) hx hb dL_law_39 (by rw [c_20]; decide) (by rw [c_20]; decide) (by rw [c_20]; rfl) (by decide) ?_
      exact lc_20 C0 H locs of v cc ls (5 * j) (2574 * j) (100 + 20 * j) (3000 + 300 * j) hP hD hS hl hR (by omega) hi (by omega) (by omega) hk
    by_cases c_21 : x = 21
    · refine lv_tableIn (tgt := 1451) (off := 1412) hx hb dL_law_39 (by rw [c_21]; decide) (by rw [c_21]; decide) (by rw [c_21]; rfl) (by decide) ?_
      exact lc_21 C0 H locs of v cc ls (5 * j) (2574 * j) (100 + 20 * j) (3000 + 300 * j) hP hD hS hl hR (by omega) hi (by omega) (by omega) hk
    by_cases c_22 : x = 22
    · refine lv_tableIn (tgt := 1519) (off := 1480) hx hb dL_law_39 (by rw [c_22]; decide) (by rw [c_22]; decide) (by rw [c_22]; rfl) (by decide) ?_
      exact lc_22 C0 H locs of v cc ls (5 * j) (2574 * j) (100 + 20 * j) (3000 + 300 * j) hP hD hS hl hR (by omega) hi (by omega) (by omega) hk
    by_cases c_23 : x = 23
    · refine lv_tableIn (tgt := 1575) (off := 1536) hx hb dL_law_39 (by rw [c_23]; decide) (by rw [c_23]; decide) (by rw [c_23]; rfl) (by decide) ?_
      exact lc_23 C0 H locs of v cc ls (5 * j) (2574 * j) (100 + 20 * j) (3000 + 300 * j) hP hD hS hl hR (by omega) hi (by omega) (by omega) hk
    by_cases c_24 : x = 24
    · refine lv_tableIn (tgt := 1631) (off := 1592) hx hb dL_law_39 (by rw [c_24]; decide) (by rw [c_24]; decide) (by rw [c_24]; rfl) (by decide) ?_
      exact lc_24 C0 H locs of v cc ls (5 * j) (2574 * j) (100 + 20 * j) (3000 + 300 * j) hP hD hS hl hR (by omega) hi (by omega) (by omega) hk
    by_cases c_25 : x = 25
    · refine lv_tableIn (tgt := 1644) (off := 1605) hx hb dL_law_39 (by rw [c_25]; decide) (by rw [c_25]; decide) (by rw [c_25]; rfl) (by decide) ?_
      exact lc_25 C0 H locs of v cc ls (5 * j) (2574 * j) (100 + 20 * j) (3000 + 300 * j) hP hD hS hl hR (by omega) hi (by omega) (by omega) hk
    by_cases c_26 : x = 26
    · refine lv_tableIn (tgt := 1700) (off := 1661) hx hb dL_law_39 (by rw [c_26]; decide) (by rw [c_26]; decide) (by rw [c_26]; rfl) (by decide) ?_
      exact lc_26 C0 H locs of v cc ls (5 * j) (2574 * j) (100 + 20 * j) (3000 + 300 * j) hP hD hS hl hR (by omega) hi (by omega) (by omega) hk
    by_cases c_27 : x = 27
    · refine lv_tableIn (tgt := 1713) (off := 1674) hx hb dL_law_39 (by rw [c_27]; decide) (by rw [c_27]; decide) (by rw [c_27]; rfl) (by decide) ?_
      exact lc_27 C0 H locs of v cc ls (5 * j) (2574 * j) (100 + 20 * j) (3000 + 300 * j) hP hD hS hl hR (by omega) hi (by omega) (by omega) hk
    by_cases c_28 : x = 28
    · refine lv_tableIn (tgt := 1726) (off := 1687) hx hb dL_law_39 (by rw [c_28]; decide) (by rw [c_28]; decide) (by rw [c_28]; rfl) (by decide) ?_
      exact lc_28 C0 H locs of v cc ls (5 * j) (2574 * j) (100 + 20 * j) (3000 + 300 * j) hP hD hS hl hR (by omega) hi (by omega) (by omega) hk
    by_cases c_29 : x = 29
    · refine lv_tableIn (tgt := 1770) (off := 1731) hx hb dL_law_39 (by rw [c_29]; decide) (by rw [c_29]; decide) (by rw [c_29]; rfl) (by decide) ?_
      exact lc_29 C0 H locs of v cc ls (5 * j) (2574 * j) (100 + 20 * j) (3000 + 300 * j) hP hD hS hl hR (by omega) hi (by omega) (by omega) hk
    refine lv_tableOut (tgt := 1784) hx hb dL_law_39 (by
        have n_0 : ¬ x.toInt = 0 := lv_neT c_0 rfl
        have n_1 : ¬ x.toInt = 1 := lv_neT c_1 rfl
        have n_2 : ¬ x.toInt = 2 := lv_neT c_2 rfl
        have n_3 : ¬ x.toInt = 3 := lv_neT c_3 rfl
        have n_4 : ¬ x.toInt = 4 := lv_neT c_4 rfl
        have n_5 : ¬ x.toInt = 5 := lv_neT c_5 rfl
        have n_6 : ¬ x.toInt = 6 := lv_neT c_6 rfl
        have n_7 : ¬ x.toInt = 7 := lv_neT c_7 rfl
        have n_8 : ¬ x.toInt = 8 := lv_neT c_8 rfl
        have n_9 : ¬ x.toInt = 9 := lv_neT c_9 rfl
        have n_10 : ¬ x.toInt = 10 := lv_neT c_10 rfl
        have n_11 : ¬ x.toInt = 11 := lv_neT c_11 rfl
        have n_12 : ¬ x.toInt = 12 := lv_neT c_12 rfl
        have n_13 : ¬ x.toInt = 13 := lv_neT c_13 rfl
        have n_14 : ¬ x.toInt = 14 := lv_neT c_14 rfl
        have n_15 : ¬ x.toInt = 15 := lv_neT c_15 rfl
        have n_16 : ¬ x.toInt = 16 := lv_neT c_16 rfl
        have n_17 : ¬ x.toInt = 17 := lv_neT c_17 rfl
        have n_18 : ¬ x.toInt = 18 := lv_neT c_18 rfl
        have n_19 : ¬ x.toInt = 19 := lv_neT c_19 rfl
        have n_20 : ¬ x.toInt = 20 := lv_neT c_20 rfl
        have n_21 : ¬ x.toInt = 21 := lv_neT c_21 rfl
        have n_22 : ¬ x.toInt = 22 := lv_neT c_22 rfl
        have n_23 : ¬ x.toInt = 23 := lv_neT c_23 rfl
        have n_24 : ¬ x.toInt = 24 := lv_neT c_24 rfl
        have n_25 : ¬ x.toInt = 25 := lv_neT c_25 rfl
        have n_26 : ¬ x.toInt = 26 := lv_neT c_26 rfl
        have n_27 : ¬ x.toInt = 27 := lv_neT c_27 rfl
        have n_28 : ¬ x.toInt = 28 := lv_neT c_28 rfl
        have n_29 : ¬ x.toInt = 29 := lv_neT c_29 rfl
        omega) (by decide) ?_
    exact W.widen (k := 100 + 20 * j + 20) (n := 3000 + 300 * j + 300) (by omega) (by omega) (hk H locs of v cc ls hP hD hS hl ⟨hR.1.up (by omega), hR.2⟩)
end LL

