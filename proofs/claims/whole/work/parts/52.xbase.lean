/-! the class: what stands beside the world (static rows, links of nest mates, the words of exceptions) -/
def lstI (xs : List Int32) (j : Nat) : Int32 := xs.getD j 0
def tCos : Nat → Int32 := lstI [10000, 9848, 9397, 8660, 7660, 6428, 5000, 3420, 1736, 0]
def tLen : Nat → Int32 := lstI [1000, 2000, 3500, 6000]
def tRad : Nat → Int32 := lstI [300, 600, 1000, 1500, 2200, 3000]
/-- a row at an address, not written -/
def eTT (a N : Nat) (f : Nat → Int32) : eT := fun A U H => va_T .int a N (fun j => .int (f j)) A U H
theorem eTT_ok {a N : Nat} {f : Nat → Int32} : eOk (eTT a N f) :=
  ⟨fun A u U H hv h => va_T.moved (by rw [hv]; exact Vm.Alike.refl _) h, fun A u U H hW h => va_T.moved hW.alike h, fun A U H H1 hq h => h.kept hq, fun A B U H hAB h => h.narrow hAB⟩
/-- a static field that holds a row of ints -/
def eSt (C n : String) (N : Nat) (f : Nat → Int32) : eT := fun A U H => ∃ a : Nat, va_Z C n "[I" (.ref a) A U H ∧ eTT a N f A U H
theorem eSt_ok {C n : String} {N : Nat} {f : Nat → Int32} : eOk (eSt C n N f) := by
  refine ⟨fun A u U H hv h => ?_, fun A u U H hW h => ?_, fun A U H H1 hq h => ?_, fun A B U H hAB h => ?_⟩
  · obtain ⟨a, h1, h2⟩ := h; exact ⟨a, va_Z.moved (by rw [hv]; exact Vm.Alike.refl _) h1, eTT_ok.1 _ _ _ _ hv h2⟩
  · obtain ⟨a, h1, h2⟩ := h; exact ⟨a, va_Z.moved hW.alike h1, eTT_ok.2.1 _ _ _ _ hW h2⟩
  · obtain ⟨a, h1, h2⟩ := h; exact ⟨a, h1.kept hq, eTT_ok.2.2.1 _ _ _ _ hq h2⟩
  · obtain ⟨a, h1, h2⟩ := h; exact ⟨a, h1.narrow hAB, eTT_ok.2.2.2 _ _ _ _ hAB h2⟩
def eAnd (E F : eT) : eT := fun A U H => E A U H ∧ F A U H
theorem eAnd_ok {E F : eT} (h1 : eOk E) (h2 : eOk F) : eOk (eAnd E F) :=
  ⟨fun A u U H hv h => ⟨h1.1 A u U H hv h.1, h2.1 A u U H hv h.2⟩, fun A u U H hW h => ⟨h1.2.1 A u U H hW h.1, h2.2.1 A u U H hW h.2⟩, fun A U H H1 hq h => ⟨h1.2.2.1 A U H H1 hq h.1, h2.2.2.1 A U H H1 hq h.2⟩, fun A B U H hAB h => ⟨h1.2.2.2 A B U H hAB h.1, h2.2.2.2 A B U H hAB h.2⟩⟩
/-- what the tables alone decide -/
def eVm (P : State → Prop) : eT := fun _ U _ => P U
theorem eVm_ok {P : State → Prop} (h1 : ∀ u U : State, u.vm = U.vm → P u → P U) (h2 : ∀ u U : State, u.WarmedH U.vm → P u → P U) : eOk (eVm P) :=
  ⟨fun _ u U _ hv h => h1 u U hv h, fun _ u U _ hW h => h2 u U hW h, fun _ _ _ _ _ h => h, fun _ _ _ _ _ h => h⟩
/-- the links of nest mates -/
def nestL : List (String × Nat × MethodName) := [(RX1, 56, yX8_clockwise), (RX7, 35, yX8_clockwise), (RX5, 11, yX0_init), (RX5, 20, yX1_init), (RX5, 27, yX7_init), (RX5, 34, yX3_init), (RX5, 41, yX6_init), (RX8, 9, yX5_init), (RX8, 26, yX4_init), (RX8, 33, yX2_init), (RX8, 40, yX0_init)]
def pNest (U : State) : Prop := ∀ q ∈ nestL, va_Nw (.methodLinkNest q.1 q.2.1 q.2.2 RX8) U
theorem pNest_ok : eOk (eVm pNest) := eVm_ok (fun _ _ hv h q hq => va_Nw.same rfl hv (h q hq)) (fun _ _ hW h q hq => va_Nw.warmM hW (h q hq))
def pAO (U : State) : Prop := va_AO RX5 U
theorem pAO_ok : eOk (eVm pAO) := eVm_ok (fun _ _ hv h => va_AO.moved (by rw [hv]; exact Vm.Alike.refl _) h) (fun _ _ hW h => va_AO.moved hW.alike h)
abbrev nIO : String := "java/lang/IndexOutOfBoundsException"
abbrev nIA : String := "java/lang/IllegalArgumentException"
abbrev nIS : String := "java/lang/IllegalStateException"
/-- the words of the exceptions that the tables decide and the lists don't hold -/
def declL : List MethodName := [⟨"java/lang/RuntimeException", "<init>", "(Ljava/lang/String;)V"⟩, ⟨"java/lang/Exception", "<init>", "(Ljava/lang/String;)V"⟩, ⟨"java/lang/Throwable", "<init>", "(Ljava/lang/String;)V"⟩]
def pExc (U : State) : Prop := (∀ y ∈ declL, va_Nw (.declares y) U) ∧ (∀ n ∈ [nIO, nIA, nIS], va_Nw (.castable n n) U) ∧ va_Nc nIA nIO U ∧ va_Nc nIS nIA U
theorem pExc_ok : eOk (eVm pExc) := eVm_ok (fun _ _ hv h => ⟨fun y hy => va_Nw.same rfl hv (h.1 y hy), fun n hn => va_Nw.same rfl hv (h.2.1 n hn), h.2.2.1.moved (by rw [hv]; exact Vm.Alike.refl _), h.2.2.2.moved (by rw [hv]; exact Vm.Alike.refl _)⟩)
  (fun _ _ hW h => ⟨fun y hy => va_Nw.warmD hW (h.1 y hy), fun n hn => va_Nw.warmC hW (h.2.1 n hn), h.2.2.1.moved hW.alike, h.2.2.2.moved hW.alike⟩)
/-- the exceptions' texts -/
def textL : List (Nat × String) := [(268, "there is no such place"), (275, "an argument is out of range"), (282, "not allowed in the present state"), (278, "two opposite motions are commanded")]
def pTxt (U : State) : Prop := ∀ q ∈ textL, ∃ a : Nat, vk_R RX8 q.1 q.2 a U
theorem pTxt_ok : eOk (eVm pTxt) := eVm_ok (fun _ _ hv h q hq => (h q hq).imp fun _ k => vk_R.same hv.symm k) (fun _ _ hW h q hq => (h q hq).imp fun _ k => vk_R.warm hW k)
def eZq (C n d : String) : eT := fun A U H => vx_Zq C n d A U H
theorem eZq_ok {C n d : String} : eOk (eZq C n d) :=
  ⟨fun A u U H hv h => vx_Zq.moved (by rw [hv]; exact Vm.Alike.refl _) h, fun A u U H hW h => vx_Zq.moved hW.alike h, fun A U H H1 hq h => h.kept hq, fun A B U H hAB h => h.narrow hAB⟩
def eX : eT := eAnd (eSt RX0 "COSINES" 10 tCos) (eAnd (eSt RX1 "LENGTHS" 4 tLen) (eAnd (eSt RX1 "RADII" 6 tRad) (eAnd (eVm pNest) (eAnd (eVm pAO) (eAnd (eVm pExc) (eAnd (eVm pTxt) (eAnd (eZq Bundle.tN "UNASSIGNED_STACK" Bundle.steD) (eZq Bundle.tN "SUPPRESSED_SENTINEL" Bundle.listD))))))))
theorem eX_ok : eOk eX := eAnd_ok eSt_ok (eAnd_ok eSt_ok (eAnd_ok eSt_ok (eAnd_ok pNest_ok (eAnd_ok pAO_ok (eAnd_ok pExc_ok (eAnd_ok pTxt_ok (eAnd_ok eZq_ok eZq_ok)))))))
section EX
variable {A : Nat → Prop} {U : State} {H : Heap}
theorem eX.cos (h : eX A U H) : ∃ a : Nat, va_Z RX0 "COSINES" "[I" (.ref a) A U H ∧ eTT a 10 tCos A U H := h.1
theorem eX.len (h : eX A U H) : ∃ a : Nat, va_Z RX1 "LENGTHS" "[I" (.ref a) A U H ∧ eTT a 4 tLen A U H := h.2.1
theorem eX.rad (h : eX A U H) : ∃ a : Nat, va_Z RX1 "RADII" "[I" (.ref a) A U H ∧ eTT a 6 tRad A U H := h.2.2.1
theorem eX.nest (h : eX A U H) : pNest U := h.2.2.2.1
theorem eX.ao (h : eX A U H) : va_AO RX5 U := h.2.2.2.2.1
theorem eX.exc (h : eX A U H) : pExc U := h.2.2.2.2.2.1
theorem eX.txt (h : eX A U H) : pTxt U := h.2.2.2.2.2.2.1
theorem eX.zqU (h : eX A U H) : vx_Zq Bundle.tN "UNASSIGNED_STACK" Bundle.steD A U H := h.2.2.2.2.2.2.2.1
theorem eX.zqN (h : eX A U H) : vx_Zq Bundle.tN "SUPPRESSED_SENTINEL" Bundle.listD A U H := h.2.2.2.2.2.2.2.2
theorem eX.n0 (h : eX A U H) : va_Nw (.methodLinkNest RX1 56 yX8_clockwise RX8) U := h.nest (RX1, 56, yX8_clockwise) (List.mem_of_getElem? (i := 0) rfl)
theorem eX.n1 (h : eX A U H) : va_Nw (.methodLinkNest RX7 35 yX8_clockwise RX8) U := h.nest (RX7, 35, yX8_clockwise) (List.mem_of_getElem? (i := 1) rfl)
theorem eX.n2 (h : eX A U H) : va_Nw (.methodLinkNest RX5 11 yX0_init RX8) U := h.nest (RX5, 11, yX0_init) (List.mem_of_getElem? (i := 2) rfl)
theorem eX.n3 (h : eX A U H) : va_Nw (.methodLinkNest RX5 20 yX1_init RX8) U := h.nest (RX5, 20, yX1_init) (List.mem_of_getElem? (i := 3) rfl)
theorem eX.n4 (h : eX A U H) : va_Nw (.methodLinkNest RX5 27 yX7_init RX8) U := h.nest (RX5, 27, yX7_init) (List.mem_of_getElem? (i := 4) rfl)
theorem eX.n5 (h : eX A U H) : va_Nw (.methodLinkNest RX5 34 yX3_init RX8) U := h.nest (RX5, 34, yX3_init) (List.mem_of_getElem? (i := 5) rfl)
theorem eX.n6 (h : eX A U H) : va_Nw (.methodLinkNest RX5 41 yX6_init RX8) U := h.nest (RX5, 41, yX6_init) (List.mem_of_getElem? (i := 6) rfl)
theorem eX.n7 (h : eX A U H) : va_Nw (.methodLinkNest RX8 9 yX5_init RX8) U := h.nest (RX8, 9, yX5_init) (List.mem_of_getElem? (i := 7) rfl)
theorem eX.n8 (h : eX A U H) : va_Nw (.methodLinkNest RX8 26 yX4_init RX8) U := h.nest (RX8, 26, yX4_init) (List.mem_of_getElem? (i := 8) rfl)
theorem eX.n9 (h : eX A U H) : va_Nw (.methodLinkNest RX8 33 yX2_init RX8) U := h.nest (RX8, 33, yX2_init) (List.mem_of_getElem? (i := 9) rfl)
theorem eX.n10 (h : eX A U H) : va_Nw (.methodLinkNest RX8 40 yX0_init RX8) U := h.nest (RX8, 40, yX0_init) (List.mem_of_getElem? (i := 10) rfl)
end EX
section RX
variable {p : Program} {l : Launch} {e : Env} {R : Room} {s : State} {m : MethodId} {args : Array Value} {below : List Frame} {meth : Method} {c : Code} {H H0 : Heap} {locs : List Loc} {cells slots : Nat} {Q : State → Prop} {pc : Nat} {ls : Array Slot} {rest : List Value} {D : va_G} {cl : List vw_C} {ws : va_W} {A : Nat → Prop} {a : Nat} {tys : List (ClassId × FieldType)} {cc : ByteArray}
/-- a static row's place is read: the index as a natural number -/
theorem rt_ld (hexec : p.tables.exec = Jvm.exec) (hb : c.code = cc) {N : Nat} {f : Nat → Int32} (hT : eTT a N f A s s.heap) (hS : va_S A s.heap H locs) {i : Int32} {j : Nat} (hi : i = nI j) (hj : j < N) (hn : N < 2 ^ 31) (hdg : decode cc pc = .ok (.iaload, 1))
    (kk : W p l e R s m args below meth c H locs cells slots Q (F0 m (pc + 1) ls (.int (f j) :: rest))) : W p l e R s m args below meth c H locs cells slots Q (F0 m pc ls (.int i :: .ref a :: rest)) :=
  va_ti hexec hb hT hS (nin hi hj hn).1 (v := .int (f j)) (by rw [(nin hi hj hn).2]) hdg kk
theorem rt_len (hexec : p.tables.exec = Jvm.exec) (hb : c.code = cc) {N : Nat} {f : Nat → Int32} (hT : eTT a N f A s s.heap) (hS : va_S A s.heap H locs) {v : Int32} (hv : Int32.ofNat N = v) (hdg : decode cc pc = .ok (.arraylength, 1))
    (kk : W p l e R s m args below meth c H locs cells slots Q (F0 m (pc + 1) ls (.int v :: rest))) : W p l e R s m args below meth c H locs cells slots Q (F0 m pc ls (.ref a :: rest)) := va_tlen hexec hb hT hS hv hdg kk
theorem rx_cell {cA : ClassId} {n : Nat} {f g : Nat → Int32} (h : ∀ j, j < n → f j = g j) : vp_cell cA (n, .inl f) = vp_cell cA (n, .inl g) := by
  rw [vp_cell_i, vp_cell_i]
  unfold arrV
  congr 1
  congr 1
  funext j
  show Value.int (f j) = Value.int (g j)
  rw [h j j.isLt]
/-- only the places that a row has count -/
theorem rx_ext (hP : va_P D cl ws H) (hD : va_D A ws) (q0 : Nat) {cA : ClassId} {n : Nat} {f g : Nat → Int32} (ha : ws[q0]? = some (a, .inl (cA, n, .inl f))) (h : ∀ j, j < n → f j = g j) : va_P D cl (ws.set q0 (a, .inl (cA, n, .inl g))) H ∧ va_D A (ws.set q0 (a, .inl (cA, n, .inl g))) := by
  refine ⟨hP.set hD ha ?_ (fun _ _ => rfl), hD.set ha⟩
  have h1 : H[a]? = some (vp_cell cA (n, .inl f)) := hP q0 _ ha
  show H[a]? = some (vp_cell cA (n, .inl g))
  rw [h1, rx_cell h]
/-- a whole row of ints is copied -/
theorem ra_cpy (hexec : p.tables.exec = Jvm.exec) (hb : c.code = cc) (hml : c.maxLocals = ls.size) {own : String} {index : Nat} (hown : s.vm.findClass own = some m.cls) (hlink : (Cond.methodLink own index arraycopyName).before args s = true) (hnat : (Cond.native arraycopyName).before args s = true) (hstat : (Cond.static arraycopyName).before args s = true) (hini : (Cond.initialized "java/lang/System").before args s = true)
    (hK : va_K D cl tys s) (hP : va_P D cl ws H) (hD : va_D A ws) (hS : va_S A H0 H locs) (q0 q1 t0 : Nat) {a0 : Nat} {cA : ClassId} {n : Nat} {f g : Nat → Int32} (ha0 : ws[q0]? = some (a0, .inl (cA, n, .inl f))) (ha1 : ws[q1]? = some (a, .inl (cA, n, .inl g))) (ht0 : tys[t0]? = some (cA, .int))
    {k : Int32} (hk : k.toNatClampNeg = n) (hk0 : ¬ k < 0) (hframes : 1 ≤ R.frames) (hlocals : (rest.map fun v => v.category).sum + 18 ≤ R.locals) (hdg : decode cc pc = .ok (.invokestatic index, 3))
    (kk : ∀ (H1 : Heap) (locs1 : List Loc), va_P D cl (ws.set q1 (a, .inl (cA, n, .inl f))) H1 → va_D A (ws.set q1 (a, .inl (cA, n, .inl f))) → va_S A H0 H1 locs1 → W p l e R s m args below meth c H1 locs1 cells slots Q (F0 m (pc + 3) ls rest)) : W p l e R s m args below meth c H locs cells slots Q (F0 m pc ls (.int k :: .int 0 :: .ref a :: .int 0 :: .ref a0 :: rest)) := by
  have z0 : (0 : Int32).toNatClampNeg = 0 := by decide
  refine va_copyi hexec hb hml hown hlink hnat hstat hini hK hP hD hS q0 q1 t0 t0 (sp := 0) (dp := 0) (n := k) ha0 ha1 ht0 ht0 rfl (by decide) (by decide) hk0 (by rw [z0, hk]; omega) (by rw [z0, hk]; omega) (fun _ _ => rfl) hframes hlocals hdg (fun H1 locs1 hP1 hD1 hS1 => ?_)
  have hg : (ws.set q1 (a, .inl (cA, n, .inl (va_cpy f g (0 : Int32).toNatClampNeg (0 : Int32).toNatClampNeg k.toNatClampNeg))))[q1]? = some (a, .inl (cA, n, .inl (va_cpy f g (0 : Int32).toNatClampNeg (0 : Int32).toNatClampNeg k.toNatClampNeg))) := by
    have hlt := (List.getElem?_eq_some_iff.mp ha1).1
    rw [List.getElem?_set_self hlt]
  obtain ⟨h1, h2⟩ := rx_ext hP1 hD1 q1 hg (g := f) (fun j hj => by
    show (if _ ≤ j ∧ j < _ then _ else _) = _
    rw [z0, hk, if_pos ⟨Nat.zero_le _, by omega⟩, Nat.zero_add, Nat.sub_zero])
  rw [List.set_set] at h1 h2
  exact kk H1 locs1 h1 h2 hS1
/-- a new row of ints -/
theorem ra_newi (hexec : p.tables.exec = Jvm.exec) (hb : c.code = cc) (harr : (Cond.arrayClass .int).before args s = true) (hK : va_K D cl tys s) (hP : va_P D cl ws H) (hD : va_D A ws) (hS : va_S A H0 H locs) (hA : ∀ q, H0.size ≤ q → A q) (t0 : Nat) {cyI : ClassId} (ht : tys[t0]? = some (cyI, .int))
    {n : Int32} {N : Nat} (hn : ¬ n < 0) (hN : n.toNatClampNeg = N) (hbytes : N * 4 ≤ 536870912) (hcells : cells + 1 ≤ R.cells) (hslots : slots + N ≤ R.slots) (hdg : decode cc pc = .ok (.newarray .int, 2))
    (kk : ∀ (q : Nat) (H1 : Heap), va_P D cl (ws ++ [(q, .inl (cyI, N, .inl (fun _ => 0)))]) H1 → va_D A (ws ++ [(q, .inl (cyI, N, .inl (fun _ => 0)))]) → va_S A H0 H1 locs →
      W p l e R s m args below meth c H1 locs (cells + 1) (slots + N) Q (F0 m (pc + 2) ls (.ref q :: rest))) : W p l e R s m args below meth c H locs cells slots Q (F0 m pc ls (.int n :: rest)) := by
  refine va_newa hexec hb (atype := .int) harr (ty := .int) rfl hK hP hD hS hA (a0 := (N, .inl (fun _ => 0))) (fun _ => rfl) hn hN hbytes hcells hslots hdg (fun q cA H1 hK1 hP1 hD1 hS1 => ?_)
  have h1 := va_nm_int (hK1.2 tys.length (cA, .int) (by simp)).2
  have h2 := va_nm_int (hK.2 t0 _ ht).2
  cases Option.some.inj (h1.symm.trans h2)
  exact kk q H1 hP1 hD1 hS1
end RX
abbrev wqJ9_floorMod_7cf53 : List Cond := Cond.code yJ9_floorMod_7cf53 cJ9_floorMod_7cf53 3 (some .int) :: wB
theorem cr_of {p : Program} {l : Launch} {e : Env} {R : Room} {s : State} {m : MethodId} {args : Array Value} {below : List Frame} {meth : Method} {c : Code} {H : Heap} {locs : List Loc} {cells slots mc ms : Nat} {g : JFrame} {rest : List Value} {Qa : State → Outcome → State → Prop} {free : Addr → Prop} (h : va_Run p l e R s m args below meth c H locs cells slots mc ms g rest Qa free) : CallRun p l e R s m args below meth c H locs cells slots mc ms g rest Qa free := fun T hT X => by
  obtain ⟨v, st₀, t, T', L, h0, h1, h2, h3, -, h5, h6⟩ := h T hT X
  exact ⟨v, st₀, t, T', L, h0, h1, h2, h3, h5, h6⟩
/-- a contract out of a body, also of a JDK class of which some methods are run otherwise -/
theorem Met.ofWF {l : Launch} {y : MethodName} {ws ws' : List Cond} {rm : Room} {Pc : Array Value → State → Prop} {Qc : Array Value → State → Outcome → State → Prop} {mc ms : Nat} {free : Addr → Prop} {cc : ByteArray} {maxL : Nat} {ret : Option FieldType}
    (hy : plainFor y = true) (hw : ws = Cond.code y cc maxL ret :: ws')
    (body : ∀ p e s m args below meth c s₁, BodyLoose p l y (headSpec ws rm) cc maxL ret e s m args below meth c s₁ → c.maxLocals = maxL → Pc args s →
      W p l e (headSpec ws rm).room s m args below meth c s.heap [] 0 0 (MQ below Qc args s mc ms free) (entryFrame m args maxL)) : Met l y ws rm Pc Qc mc ms free := by
  refine MetFree.of_bodySF (code := cc) (maxLocals := maxL) (ret := ret) hy ?_ ?_
  · intro args s m h hn
    obtain ⟨meth, c, h1, h2, h3, h4, h5, h6, -, -⟩ := Cond.code_spec hn (atoms_spec (ws := ws) h _ (by rw [hw]; exact List.mem_cons_self))
    exact ⟨meth, c, h1, h2, h3, h4, h5, h6⟩
  · intro p e s m args below meth c s₁ B hml hP _
    obtain ⟨t, a1, o, b1, b2, b3⟩ := body p e s m args below meth c s₁ B hml hP s₁ (by rw [B.state]; rfl) (Stand.of_body B)
    exact ⟨t, o, a1, b1, b2, b3.1, b3.2⟩

