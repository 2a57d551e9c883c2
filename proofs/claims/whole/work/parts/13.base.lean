/-! pictures of methods: a name for a value, a loop of at most n rounds -/
def spLet {α β : Type} (a : α) (K : α → β) : β := K a
theorem spLet_eq {α β : Type} {a u : α} {K : α → β} (h : u = a) : spLet a K = K u := by rw [h]; rfl
/-- the same as a row for rewriting: not by computation, so that a proof with it has no long comparisons to make -/
theorem spLet_x {α β : Type} (a : α) (K : α → β) : spLet a K = K a := spLet_eq (u := a) rfl
def spIter {F : Type} (d : F) (body : F → F) : Nat → F
  | 0 => d
  | n + 1 => body (spIter d body n)
/-- index rows: the index as a natural number -/
theorem nadd {a b : Int32} {j k : Nat} (ha : a = nI j) (hb : b = nI k) : a + b = nI (j + k) := by rw [ha, hb]; exact nI_add j k
theorem nmul {a b : Int32} {j k : Nat} (ha : a = nI j) (hb : b = nI k) : a * b = nI (j * k) := by rw [ha, hb]; exact pk_mul j k
theorem nsub {a b : Int32} {j k : Nat} (ha : a = nI j) (hb : b = nI k) (h : k ≤ j) : a - b = nI (j - k) := by rw [ha, hb]; exact pk_sub h
theorem ninc (k : Nat) (n : Nat) : nI k + Int32.ofInt n = nI (k + n) := by
  have h : Int32.ofInt (n : Int) = nI n := rfl
  rw [h]; exact nI_add k n
theorem nin {i : Int32} {j n : Nat} (hi : i = nI j) (hj : j < n) (hn : n < 2 ^ 31) : vp_in i n ∧ i.toNatClampNeg = j := by
  subst hi
  exact ⟨vp_in_nI hj hn, nI_clamp (Nat.lt_trans hj hn)⟩
theorem vp_in_gl {i : Int32} {n : Nat} {N : Int32} (hN : N = nI n) (hn : n < 2 ^ 31) (h0 : 0 ≤ i) (h1 : i < N) : vp_in i n := by
  subst hN
  obtain ⟨j, hj, rfl⟩ := nI_of (x := i) (fun h => absurd h0 (by
    have := Int32.lt_iff_toInt_lt.mp h
    intro h2
    have := Int32.le_iff_toInt_le.mp h2
    omega))
  exact vp_in_nI ((nI_ltI hj hn).mp h1) hn
/-! facts of a state that only its tables, its heap and what a method may change decide -/
abbrev eT : Type := (Nat → Prop) → State → Heap → Prop
def eOk (E : eT) : Prop := (∀ (A : Nat → Prop) (u U : State) (H : Heap), u.vm = U.vm → E A u H → E A U H) ∧ (∀ (A : Nat → Prop) (u U : State) (H : Heap), u.WarmedH U.vm → E A u H → E A U H) ∧ (∀ (A : Nat → Prop) (U : State) (H H1 : Heap), (∀ a : Nat, a < H.size → ¬ A a → H1[a]? = H[a]?) → E A U H → E A U H1) ∧ (∀ (A B : Nat → Prop) (U : State) (H : Heap), (∀ q, B q → A q) → E A U H → E B U H)
def eM : eT := fun _ _ _ => True
theorem eM_ok : eOk eM := ⟨fun _ _ _ _ _ _ => trivial, fun _ _ _ _ _ _ => trivial, fun _ _ _ _ _ _ => trivial, fun _ _ _ _ _ _ => trivial⟩
abbrev aF : Nat → Prop := fun _ => False
/-- what a reading method starts from -/
def pB (D : va_G) (ws : va_W) (tys : List (ClassId × FieldType)) (E : eT) (U : State) : Prop := va_P D vwCl ws U.heap ∧ va_K D vwCl tys U ∧ E aF U U.heap
/-- what a changing method starts from -/
def pC (D : va_G) (ws : va_W) (tys : List (ClassId × FieldType)) (E : eT) (sz : Nat) (U : State) : Prop := U.heap.size = sz ∧ va_P D vwCl ws U.heap ∧ va_K D vwCl tys U ∧ va_D (fun _ => True) ws ∧ E (va_A ws sz) U U.heap
theorem pB_blind {D : va_G} {ws : va_W} {tys : List (ClassId × FieldType)} {E : eT} {av : List Value} (hE : eOk E) : FrameBlind (va_Pc av (pB D ws tys E)) := fun a U g mk q => ⟨q.1, q.2.1, va_K.moved (u := U) (U := U.calling g mk a) (Vm.Alike.refl U.vm) q.2.2.1, hE.1 aF U (U.calling g mk a) U.heap rfl q.2.2.2⟩
theorem pC_blind {D : va_G} {ws : va_W} {tys : List (ClassId × FieldType)} {E : eT} {av : List Value} {sz : Nat} (hE : eOk E) : FrameBlind (va_Pc av (pC D ws tys E sz)) := fun a U g mk q => ⟨q.1, q.2.1, q.2.2.1, va_K.moved (u := U) (U := U.calling g mk a) (Vm.Alike.refl U.vm) q.2.2.2.1, q.2.2.2.2.1, hE.1 (va_A ws sz) U (U.calling g mk a) U.heap rfl q.2.2.2.2.2⟩
section PRE
variable {D : va_G} {tys : List (ClassId × FieldType)} {E : eT} {A : Nat → Prop} {s : State} {H : Heap} {locs : List Loc} {wc : va_W} {As : List Value}
theorem pre_u (hE : eOk E) (he : E A s s.heap) (hS : va_S A s.heap H locs) (hP : va_P D vwCl wc H) (hK : va_K D vwCl tys s) (av : List Value) : ∀ U : State, U.heap = H → s.WarmedH U.vm → va_Pc av (pB D wc tys E) av.toArray U := fun U hU hW => ⟨rfl, by rw [hU]; exact hP, va_K.moved hW.alike hK, by
  rw [hU]
  exact hE.2.1 aF s U H hW (hE.2.2.2 A aF s H (fun _ h => h.elim) (hE.2.2.1 A s s.heap H hS.2.1 he))⟩
theorem pre_s (hE : eOk E) (he : E A s s.heap) (hS : va_S A s.heap H locs) (hP : va_P D vwCl wc H) (hK : va_K D vwCl tys s) : PreS s H (va_Pc As (pB D wc tys E)) As := ⟨pB_blind hE, pre_u hE he hS hP hK As⟩
theorem pre_v {C : String} {b ci : Nat} {fs : List Value} {q : vw_C} (hE : eOk E) (he : E A s s.heap) (hS : va_S A s.heap H locs) (hP : va_P D vwCl wc H) (hK : va_K D vwCl tys s) (q0 : Nat) (hq : wc[q0]? = some (b, .inr (ci, fs))) (hc : vwCl[ci]? = some q) (hC : q.1 = C) : PreV s H C b (va_Pc (.ref b :: As) (pB D wc tys E)) As := ⟨pB_blind hE, hC ▸ va_recv hK hP hc hq, pre_u hE he hS hP hK (.ref b :: As)⟩
theorem prm_u (hE : eOk E) (he : E A s s.heap) (hS : va_S A s.heap H locs) (hP : va_P D vwCl wc H) (hD : va_D A wc) (hK : va_K D vwCl tys s) (hF : ∀ q, va_A wc H.size q → A q) (av : List Value) : ∀ U : State, U.heap = H → s.WarmedH U.vm → va_Pc av (pC D wc tys E H.size) av.toArray U := fun U hU hW => ⟨rfl, by rw [hU], by rw [hU]; exact hP, va_K.moved hW.alike hK, hD.weaken (fun _ _ _ _ => trivial), by
  rw [hU]
  exact hE.2.1 _ s U H hW (hE.2.2.2 A _ s H hF (hE.2.2.1 A s s.heap H hS.2.1 he))⟩
theorem prm_s (hE : eOk E) (he : E A s s.heap) (hS : va_S A s.heap H locs) (hP : va_P D vwCl wc H) (hD : va_D A wc) (hK : va_K D vwCl tys s) (hF : ∀ q, va_A wc H.size q → A q) : PreS s H (va_Pc As (pC D wc tys E H.size)) As := ⟨pC_blind hE, prm_u hE he hS hP hD hK hF As⟩
theorem prm_v {C : String} {b ci : Nat} {fs : List Value} {q : vw_C} (hE : eOk E) (he : E A s s.heap) (hS : va_S A s.heap H locs) (hP : va_P D vwCl wc H) (hD : va_D A wc) (hK : va_K D vwCl tys s) (hF : ∀ q, va_A wc H.size q → A q) (q0 : Nat) (hq : wc[q0]? = some (b, .inr (ci, fs))) (hc : vwCl[ci]? = some q) (hC : q.1 = C) : PreV s H C b (va_Pc (.ref b :: As) (pC D wc tys E H.size)) As := ⟨pC_blind hE, hC ▸ va_recv hK hP hc hq, prm_u hE he hS hP hD hK hF (.ref b :: As)⟩
end PRE
section MJ
variable {p : Program} {l : Launch} {e : Env} {R : Room} {s : State} {m : MethodId} {args : Array Value} {below : List Frame} {meth : Method} {c : Code} {H H0 : Heap} {locs : List Loc} {cells slots mc ms : Nat} {Q : State → Prop} {pc : Nat} {ls : Array Slot} {st0 rest : List Value} {a : Array Value} {D : va_G} {cl : List vw_C} {ws wc wr : va_W} {A0 : Nat → Prop} {S : Type} {w1 : S → va_W}
/-- behind a call of a changing method: the caller's other cells, and the callee's as they came back -/
theorem mj_i {post : Int32 → S → Prop} (hr : va_Run p l e R s m args below meth c H locs cells slots mc ms (F0 m pc ls st0) rest (va_Qi post (fun u t => va_P D cl (w1 u) t.heap ∧ va_D (va_A wc H.size) (w1 u)) (va_A wc H.size) a) (va_A wc H.size)) (hP : va_P D cl ws H) (hD : va_D A0 ws) (hS : va_S A0 H0 H locs) (hA : ∀ q, H0.size ≤ q → A0 q) (isC isR : List Nat) (hC : isC.map (fun i => ws[i]?) = wc.map some) (hR : isR.map (fun i => ws[i]?) = wr.map some) (hn : va_nd isR = true) (hdis : ∀ i ∈ isR, i ∉ isC)
    (kk : ∀ (r : Int32) (u : S) (H1 : Heap) (locs1 : List Loc), post r u → va_P D cl (wr ++ w1 u) H1 → va_D A0 (wr ++ w1 u) → va_S A0 H0 H1 locs1 → W p l e R s m args below meth c H1 locs1 (cells + mc) (slots + ms) Q (F0 m (pc + 3) ls (.int r :: rest))) : W p l e R s m args below meth c H locs cells slots Q (F0 m pc ls st0) := by
  have hF := va_free hD hS hA isC hC
  refine va_calli hr hS (fun q _ h => hF q h) hF (fun r u t H1 locs1 ht hvm hw hB hz hk hS1 => ?_)
  obtain ⟨hP1, hD1⟩ := hB
  rw [ht] at hP1
  obtain ⟨h1, h2⟩ := va_join hP hD isC isR hC hR hn hdis hk hF hP1 hD1
  exact kk r u H1 locs1 hw h1 h2 hS1
theorem mj_l {post : Int64 → S → Prop} (hr : va_Run p l e R s m args below meth c H locs cells slots mc ms (F0 m pc ls st0) rest (va_Ql post (fun u t => va_P D cl (w1 u) t.heap ∧ va_D (va_A wc H.size) (w1 u)) (va_A wc H.size) a) (va_A wc H.size)) (hP : va_P D cl ws H) (hD : va_D A0 ws) (hS : va_S A0 H0 H locs) (hA : ∀ q, H0.size ≤ q → A0 q) (isC isR : List Nat) (hC : isC.map (fun i => ws[i]?) = wc.map some) (hR : isR.map (fun i => ws[i]?) = wr.map some) (hn : va_nd isR = true) (hdis : ∀ i ∈ isR, i ∉ isC)
    (kk : ∀ (r : Int64) (u : S) (H1 : Heap) (locs1 : List Loc), post r u → va_P D cl (wr ++ w1 u) H1 → va_D A0 (wr ++ w1 u) → va_S A0 H0 H1 locs1 → W p l e R s m args below meth c H1 locs1 (cells + mc) (slots + ms) Q (F0 m (pc + 3) ls (.long r :: rest))) : W p l e R s m args below meth c H locs cells slots Q (F0 m pc ls st0) := by
  have hF := va_free hD hS hA isC hC
  refine va_calll hr hS (fun q _ h => hF q h) hF (fun r u t H1 locs1 ht hvm hw hB hz hk hS1 => ?_)
  obtain ⟨hP1, hD1⟩ := hB
  rw [ht] at hP1
  obtain ⟨h1, h2⟩ := va_join hP hD isC isR hC hR hn hdis hk hF hP1 hD1
  exact kk r u H1 locs1 hw h1 h2 hS1
theorem mj_v {post : S → Prop} (hr : va_Run p l e R s m args below meth c H locs cells slots mc ms (F0 m pc ls st0) rest (va_Qv post (fun u t => va_P D cl (w1 u) t.heap ∧ va_D (va_A wc H.size) (w1 u)) (va_A wc H.size) a) (va_A wc H.size)) (hP : va_P D cl ws H) (hD : va_D A0 ws) (hS : va_S A0 H0 H locs) (hA : ∀ q, H0.size ≤ q → A0 q) (isC isR : List Nat) (hC : isC.map (fun i => ws[i]?) = wc.map some) (hR : isR.map (fun i => ws[i]?) = wr.map some) (hn : va_nd isR = true) (hdis : ∀ i ∈ isR, i ∉ isC)
    (kk : ∀ (u : S) (H1 : Heap) (locs1 : List Loc), post u → va_P D cl (wr ++ w1 u) H1 → va_D A0 (wr ++ w1 u) → va_S A0 H0 H1 locs1 → W p l e R s m args below meth c H1 locs1 (cells + mc) (slots + ms) Q (F0 m (pc + 3) ls rest)) : W p l e R s m args below meth c H locs cells slots Q (F0 m pc ls st0) := by
  have hF := va_free hD hS hA isC hC
  refine va_callv hr hS (fun q _ h => hF q h) hF (fun u t H1 locs1 ht hvm hw hB hz hk hS1 => ?_)
  obtain ⟨hP1, hD1⟩ := hB
  rw [ht] at hP1
  obtain ⟨h1, h2⟩ := va_join hP hD isC isR hC hR hn hdis hk hF hP1 hD1
  exact kk u H1 locs1 hw h1 h2 hS1
end MJ
section RA
variable {p : Program} {l : Launch} {e : Env} {R : Room} {s : State} {m : MethodId} {args : Array Value} {below : List Frame} {meth : Method} {c : Code} {H H0 : Heap} {locs : List Loc} {cells slots : Nat} {Q : State → Prop} {pc : Nat} {ls : Array Slot} {rest : List Value} {D : va_G} {cl : List vw_C} {ws : va_W} {A : Nat → Prop} {a : Nat} {tys : List (ClassId × FieldType)} {cc : ByteArray}
/-- an int array's place is read, written: the index as a natural number -/
theorem ra_ld (hexec : p.tables.exec = Jvm.exec) (hb : c.code = cc) (hK : va_K D cl tys s) (hP : va_P D cl ws H) (q0 t0 : Nat) {cA : ClassId} {n : Nat} {f : Nat → Int32} (ha : ws[q0]? = some (a, .inl (cA, n, .inl f))) (ht : tys[t0]? = some (cA, .int)) {i : Int32} {j : Nat} (hi : i = nI j) (hj : j < n) (hn : n < 2 ^ 31) (hdg : decode cc pc = .ok (.iaload, 1))
    (kk : W p l e R s m args below meth c H locs cells slots Q (F0 m (pc + 1) ls (.int (f j) :: rest))) : W p l e R s m args below meth c H locs cells slots Q (F0 m pc ls (.int i :: .ref a :: rest)) :=
  va_iald hexec hb hK hP q0 t0 ha ht (nin hi hj hn).1 hdg (by rw [(nin hi hj hn).2]; exact kk)
theorem ra_st (hexec : p.tables.exec = Jvm.exec) (hb : c.code = cc) (hK : va_K D cl tys s) (hP : va_P D cl ws H) (hD : va_D A ws) (hS : va_S A H0 H locs) (q0 t0 : Nat) {cA : ClassId} {n : Nat} {f : Nat → Int32} (ha : ws[q0]? = some (a, .inl (cA, n, .inl f))) (ht : tys[t0]? = some (cA, .int)) {i : Int32} {x : Int32} {j : Nat} (hi : i = nI j) (hj : j < n) (hn : n < 2 ^ 31) (hdg : decode cc pc = .ok (.iastore, 1))
    (kk : ∀ (H1 : Heap) (locs1 : List Loc), va_P D cl (ws.set q0 (a, .inl (cA, n, .inl (upd f j x)))) H1 → va_D A (ws.set q0 (a, .inl (cA, n, .inl (upd f j x)))) → va_S A H0 H1 locs1 → W p l e R s m args below meth c H1 locs1 cells slots Q (F0 m (pc + 1) ls rest)) : W p l e R s m args below meth c H locs cells slots Q (F0 m pc ls (.int x :: .int i :: .ref a :: rest)) :=
  va_iast hexec hb hK hP hD hS q0 t0 ha ht (nin hi hj hn).1 hdg (by rw [(nin hi hj hn).2]; exact kk)
end RA
theorem ne0_l {x : Int32} (h : ¬ x = 0) : ¬ x.toInt64 = 0 := fun h2 => h (Int32.toInt_inj.mp (by
  have := congrArg Int64.toInt h2
  rw [Int32.toInt_toInt64] at this
  exact this))

