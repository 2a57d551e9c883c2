/-! the law: its world, its invariant, what its cases share -/
/-- the reference's state: numbers (saved, text, code, memory's two, place, orders), rows (s, saved, text, place, motions, ticks) -/
abbrev MS : Type := (Nat → Int32) × (Nat → Nat → Int32)
def i7 (a0 a1 a2 a3 a4 a5 a6 : Int32) : Nat → Int32 := fun k => ([a0, a1, a2, a3, a4, a5, a6] : List Int32).getD k 0
def f6 (a0 a1 a2 a3 a4 a5 : Nat → Int32) : Nat → Nat → Int32 := fun k => ([a0, a1, a2, a3, a4, a5] : List (Nat → Int32)).getD k (fun _ => 0)
def MW (cyI : ClassId) (Q : Nat → Nat) (v : MS) : va_W := [(Q 0, .inr (9, [.ref (Q 1), .ref (Q 2), .int (v.1 0), .ref (Q 3), .int (v.1 1), .int (v.1 2), .int (v.1 3), .int (v.1 4), .ref (Q 4), .int (v.1 5), .int (v.1 6), .ref (Q 5), .ref (Q 6)])), (Q 1, .inl (cyI, 246, .inl (v.2 0))), (Q 2, .inl (cyI, 984, .inl (v.2 1))), (Q 3, .inl (cyI, 80, .inl (v.2 2))), (Q 4, .inl (cyI, 5, .inl (v.2 3))), (Q 5, .inl (cyI, 40, .inl (v.2 4))), (Q 6, .inl (cyI, 40, .inl (v.2 5)))]
def LO (cyJ : ClassId) (qo : Nat) (of : Nat → Int64) : Nat × va_E := (qo, .inl (cyJ, 1, .inr (.inl of)))
def LW (cyI cyS cyJ : ClassId) (qo : Nat) (Q aX aS : Nat → Nat) (of : Nat → Int64) (v : MS) (cc : CS) : va_W := LO cyJ qo of :: (MW cyI Q v ++ CW cyI cyS aX aS cc)
def LR (n : Nat) (cc : CS) (v : MS) : Prop := relC n cc (v.1 0) (v.2 1) (v.2 0) ∧ relX cc (v.1 1) (v.2 2)
abbrev lTys (cyI cyS cyJ : ClassId) : List (ClassId × FieldType) := [(cyI, .int), (cyS, .object RX5), (cyJ, .long)]
abbrev lA (s : State) : Nat → Prop := fun q => s.heap.size ≤ q
abbrev lTs : List Cond := Cond.arrayClass .int :: wB
def lwL (b qa q0 qo i : Nat) : List (Nat × Value) := [(4, .int (nI i)), (3, .ref qo), (2, .ref q0), (1, .ref qa), (0, .ref b)]
/-- what holds all through the law's loop -/
def LCx (p : Program) (l : Launch) (s : State) (m : MethodId) (meth : Method) (c : Code) (b L : Nat) (xs : Nat → Int32) (dC : Nat → ClassId) (dI : Nat → Nat → Nat) (cyI cyS cyJ : ClassId) : Prop :=
  p.tables.exec = Jvm.exec ∧ c.code = cL_law ∧ meth.sig.returnType = ret ∧ c.maxLocals = 7 ∧ s.vm.findClass RL = some m.cls ∧ (∀ w ∈ lTs, w.before #[Value.ref b] s = true) ∧ va_X b L xs s s.heap ∧ b < s.heap.size ∧ L ≤ 2560 ∧ l.stackTraces = false ∧ va_K (dC, dI) vwCl (lTys cyI cyS cyJ) s ∧ eX (lA s) s s.heap
/-- the way on, from the end of a case -/
def LK (p : Program) (l : Launch) (e : Env) (s : State) (m : MethodId) (below : List Frame) (meth : Method) (c : Code) (b : Nat) (dC : Nat → ClassId) (dI : Nat → Nat → Nat) (cyI cyS cyJ : ClassId) (qo : Nat) (Q aX aS : Nat → Nat) (Z : State → Prop) (i n cells slots : Nat) : Prop :=
  ∀ (H : Heap) (locs : List Loc) (of : Nat → Int64) (v : MS) (cc : CS) (ls : Array Slot), va_P (dC, dI) vwCl (LW cyI cyS cyJ qo Q aX aS of v cc) H → va_D (lA s) (LW cyI cyS cyJ qo Q aX aS of v cc) → va_S (lA s) s.heap H locs → lv_has ls 7 (lwL b (aX 0) (Q 0) qo i) → LR n cc v → W p l e room_1 s m #[Value.ref b] below meth c H locs cells slots Z (F0 m 1784 ls [])
/-- a case, from its place -/
def LT (p : Program) (l : Launch) (e : Env) (s : State) (m : MethodId) (below : List Frame) (meth : Method) (c : Code) (b L : Nat) (dC : Nat → ClassId) (dI : Nat → Nat → Nat) (cyI cyS cyJ : ClassId) (qo : Nat) (Q aX aS : Nat → Nat) (Z : State → Prop) (pc : Nat) : Prop :=
  ∀ (H : Heap) (locs : List Loc) (of : Nat → Int64) (v : MS) (cc : CS) (ls : Array Slot) (i n cells slots : Nat), va_P (dC, dI) vwCl (LW cyI cyS cyJ qo Q aX aS of v cc) H → va_D (lA s) (LW cyI cyS cyJ qo Q aX aS of v cc) → va_S (lA s) s.heap H locs → lv_has ls 7 (lwL b (aX 0) (Q 0) qo i) → LR n cc v → n < 900000000 → i + 5 ≤ L → cells + 20 ≤ 601024 → slots + 300 ≤ 7293034 →
    LK p l e s m below meth c b dC dI cyI cyS cyJ qo Q aX aS Z i (n + 2574) (cells + 20) (slots + 300) → W p l e room_1 s m #[Value.ref b] below meth c H locs cells slots Z (F0 m pc ls [])
theorem relC.up {n m : Nat} {cc : CS} {svm : Int32} {zv z : Nat → Int32} (h : relC n cc svm zv z) (hm : n ≤ m) : relC m cc svm zv z := ⟨h.1, h.2.1.mono hm, h.2.2.o' hm⟩
theorem LR.hsv {n : Nat} {cc : CS} {v : MS} (h : LR n cc v) : v.1 0 = nI (v.1 0).toNatClampNeg ∧ (v.1 0).toNatClampNeg ≤ 4 := by
  obtain ⟨s, p, e1, e2, e3, h4, h5, -⟩ := h.1.2.1
  first
    | (have e : (v.1 0).toNatClampNeg = s := by rw [e1, nI_clamp (by omega)]
       exact ⟨by rw [e]; exact e1, by omega⟩)
    | (have e : (v.1 0).toNatClampNeg = s := by rw [e2, nI_clamp (by omega)]
       exact ⟨by rw [e]; exact e2, by omega⟩)
theorem LR.G {n : Nat} {cc : CS} {v : MS} (h : LR n cc v) : mG (v.2 0) := h.1.1.2.G
theorem LR.T {n : Nat} {cc : CS} {v : MS} (h : LR n cc v) : v.1 1 = nI (v.1 1).toNatClampNeg ∧ (v.1 1).toNatClampNeg ≤ 80 := ⟨h.2.2.1, h.2.2.2.1⟩
section LWS
variable {p : Program} {l : Launch} {e : Env} {s : State} {m : MethodId} {b L : Nat} {xs : Nat → Int32} {below : List Frame} {meth : Method} {c : Code} {dC : Nat → ClassId} {dI : Nat → Nat → Nat} {cyI cyS cyJ : ClassId} {qo : Nat} {Q aX aS : Nat → Nat} {Z : State → Prop} {H : Heap} {locs : List Loc} {ls : Array Slot} {cells slots i n pc : Nat} {st : List Value} {of : Nat → Int64} {v : MS} {cc : CS}
/-- an argument out of the script -/
theorem lw_arg (C0 : LCx p l s m meth c b L xs dC dI cyI cyS cyJ) (hS : va_S (lA s) s.heap H locs) {lv : List (Nat × Value)} (hl : lv_has ls 7 lv) (j0 j4 : Nat) (h0 : lv[j0]? = some (0, .ref b)) (h4 : lv[j4]? = some (4, .int (nI i))) (hi : i + 5 ≤ L) (k : Nat) (hk : k < 5) (d0 : decode cL_law pc = .ok (.aload_n 0, 1)) (d1 : decode cL_law (pc + 1) = .ok (.iload 4, 2)) (d3 : decode cL_law (pc + 3) = .ok (.iconst (k : Int), 1)) (d4 : decode cL_law (pc + 4) = .ok (.iadd, 1)) (d5 : decode cL_law (pc + 5) = .ok (.iaload, 1))
    (kk : W p l e room_1 s m #[Value.ref b] below meth c H locs cells slots Z (F0 m (pc + 6) ls (.int (xs (i + k)) :: st))) : W p l e room_1 s m #[Value.ref b] below meth c H locs cells slots Z (F0 m pc ls st) := by
  obtain ⟨hx, hb, hr, hml, hown, hts, hX, hbl, hL, hst, hK, he⟩ := C0
  refine lv_aload_n hx hb d0 rfl (lv_at hl j0 h0) ?_
  refine lv_iload hx hb d1 (lv_at hl j4 h4) ?_
  refine lv_iconst (v := nI k) hx hb d3 rfl ?_
  refine lv_iadd hx hb d4 ?_
  rw [nI_add]
  refine va_sld hx hb hX hbl (Nat.not_le.mpr hbl) hS (vp_in_nI (by omega) (by omega)) d5 ?_
  rw [nI_clamp (by omega)]
  exact kk
/-- the rest of a case behind both sides' calls -/
theorem lw_tail (C0 : LCx p l s m meth c b L xs dC dI cyI cyS cyJ) {t : Nat} {k r2 : Int32} {off : Int} (hP : va_P (dC, dI) vwCl (LW cyI cyS cyJ qo Q aX aS of v cc) H) (hD : va_D (lA s) (LW cyI cyS cyJ qo Q aX aS of v cc)) (hS : va_S (lA s) s.heap H locs) (hl : lv_has ls 7 ((5, .int k) :: lwL b (aX 0) (Q 0) qo i)) (hv : v.1 2 = k) (h0 : k = 0 → of 0 = r2.toInt64) (hR : LR n cc v) {cells' slots' : Nat} (hc : cells ≤ cells') (hs : slots ≤ slots') (hc' : cells' ≤ 601024) (hs' : slots' ≤ 7293034)
    (kk : LK p l e s m below meth c b dC dI cyI cyS cyJ qo Q aX aS Z i n cells' slots')
    (d0 : decode cL_law t = .ok (.istore 6, 2)) (d2 : decode cL_law (t + 2) = .ok (.aload_n 2, 1)) (d3 : decode cL_law (t + 3) = .ok (.invokevirtual 99, 3)) (d6 : decode cL_law (t + 6) = .ok (.iload 5, 2)) (d8 : decode cL_law (t + 8) = .ok (.if_icmp .eq 5, 3)) (d13 : decode cL_law (t + 13) = .ok (.iload 5, 2)) (d15 : decode cL_law (t + 15) = .ok (.ifCond .ne 15, 3)) (d18 : decode cL_law (t + 18) = .ok (.aload_n 3, 1)) (d19 : decode cL_law (t + 19) = .ok (.iconst 0, 1)) (d20 : decode cL_law (t + 20) = .ok (.laload, 1)) (d21 : decode cL_law (t + 21) = .ok (.iload 6, 2)) (d23 : decode cL_law (t + 23) = .ok (.i2l, 1)) (d24 : decode cL_law (t + 24) = .ok (.lcmp, 1)) (d25 : decode cL_law (t + 25) = .ok (.ifCond .eq 5, 3)) (d30 : decode cL_law (t + 30) = .ok (.goto off, 3)) (ho : (((t + 30 : Nat)) : Int) + off = ((1784 : Nat) : Int)) :
    W p l e room_1 s m #[Value.ref b] below meth c H locs cells slots Z (F0 m t ls [.int r2]) := by
  obtain ⟨hx, hb, hr, hml, hown, hts, hX, hbl, hL, hst, hK, he⟩ := C0
  refine lv_istore (lv' := (6, .int r2) :: (5, .int k) :: lwL b (aX 0) (Q 0) qo i) hx hb d0 hl (by decide) rfl (fun ls hl => ?_)
  have hl : lv_has ls 7 [(6, .int r2), (5, .int k), (4, .int (nI i)), (3, .ref qo), (2, .ref (Q 0)), (1, .ref (aX 0)), (0, .ref b)] := hl
  refine lv_aload_n hx hb d2 rfl (lv_at hl 4 rfl) ?_
  have hPm := g_P hP (lp_m (LO cyJ qo of) (MW cyI Q v) (CW cyI cyS aX aS cc))
  refine vp_callSi (W.runV (As := []) (rest := []) ⟨hx, hb, hml, hown, hts⟩ (c_X9_thrown l dC dI cyI (Q 0) (Q 1) (Q 2) (Q 3) (Q 4) (Q 5) (Q 6) (v.1 0) (v.1 1) (v.1 2) (v.1 3) (v.1 4) (v.1 5) (v.1 6) (v.2 0) (v.2 1) (v.2 2) (v.2 3) (v.2 4) (v.2 5)) (cwV 0 hts (gBV b_198 b_199 b_200 b_5 b_201) rfl rfl rfl (by decide +kernel) ⟨Nat.le_of_ble_eq_true rfl, Nat.le_of_ble_eq_true rfl⟩) (pre_v eM_ok trivial hS hPm (hK.sub [0] rfl) 0 rfl rfl rfl) rfl rfl hl.1 rfl (lv_room (Nat.le_of_ble_eq_true rfl)) d3 ⟨(show cells + 0 ≤ 601024 by omega), (show slots + 0 ≤ 7293034 by omega)⟩) (fun r3 hr3 => ?_)
  have hr3 : r3 = v.1 2 := hr3
  rw [hr3, hv]
  refine lv_iload hx hb d6 (lv_at hl 1 rfl) ?_
  refine lv_icmp_eq (tgt := t + 13) hx hb d8 (by omega) (fun _ => ?_) (fun h => absurd rfl h)
  refine lv_iload hx hb d13 (lv_at hl 1 rfl) ?_
  have hend : ∀ (ls : Array Slot), lv_has ls 7 [(6, .int r2), (5, .int k), (4, .int (nI i)), (3, .ref qo), (2, .ref (Q 0)), (1, .ref (aX 0)), (0, .ref b)] → W p l e room_1 s m #[Value.ref b] below meth c H locs cells slots Z (F0 m (t + 30) ls []) := fun ls hl => by
    refine lv_goto (tgt := 1784) hx hb d30 ho ?_
    exact W.widen (k := cells') (n := slots') hc hs (kk H locs of v cc ls hP hD hS (lv_sub hl [2, 3, 4, 5, 6] rfl) hR)
  refine lv_if_ne (tgt := t + 30) hx hb d15 (by omega) (fun _ => hend ls hl) (fun hk0 => ?_)
  refine lv_aload_n hx hb d18 rfl (lv_at hl 3 rfl) ?_
  refine lv_iconst (v := nI 0) hx hb d19 rfl ?_
  refine va_lald hx hb hK hP 0 2 (ha := rfl) rfl (vp_in_nI (n := 0) (by decide) (by decide)) d20 ?_
  rw [show of (nI 0).toNatClampNeg = of 0 by rw [nI_clamp (by decide)], h0 hk0]
  refine lv_iload hx hb d21 (lv_at hl 0 rfl) ?_
  refine lv_i2l hx hb d23 rfl ?_
  refine W.lcmp hx hb d24 ?_
  refine lv_if_eq (tgt := t + 30) hx hb d25 (by omega) (fun _ => hend ls hl) (fun h => absurd ((lg_cmp_eq _ _).mpr rfl) h)
end LWS

