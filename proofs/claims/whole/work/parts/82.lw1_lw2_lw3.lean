/-! contracts in a larger world -/
theorem Met.weak {l : Launch} {y : MethodName} {ws : List Cond} {rm : Room} {Pc Pc' : Array Value → State → Prop} {Qc Qc' : Array Value → State → Outcome → State → Prop} {mc ms : Nat} {free free' : Addr → Prop} (h : Met l y ws rm Pc Qc mc ms free) (hp : ∀ a s, Pc' a s → Pc a s) (hq : ∀ a s o t, Pc' a s → Qc a s o t → Qc' a s o t) (hf : ∀ q, free q → free' q) : Met l y ws rm Pc' Qc' mc ms free' := by
  intro p e ha hc hk s m args below h1 happ hP hK
  obtain ⟨k, o, h2, h3, h4, hQ, L, h5, h6⟩ := h p e ha hc hk s m args below h1 happ (hp _ _ hP) hK
  exact ⟨k, o, h2, h3, h4, hq _ _ _ _ hP hQ, L, h5, fun q hq => hf _ (h6 q hq)⟩
theorem vx_Met.weak {l : Launch} {y : MethodName} {ws : List Cond} {rm : Room} {Pc Pc' : Array Value → State → Prop} {Qc Qc' : Array Value → State → Outcome → State → Prop} {XC XC' : String → State → State → Prop} {mc ms : Nat} {free free' : Addr → Prop} (h : vx_Met l y ws rm Pc Qc XC mc ms free) (hp : ∀ a s, Pc' a s → Pc a s) (hq : ∀ a s o t, Pc' a s → Qc a s o t → Qc' a s o t) (hx : ∀ E s t, XC E s t → XC' E s t) (hf : ∀ q, free q → free' q) : vx_Met l y ws rm Pc' Qc' XC' mc ms free' := by
  intro p e ha hc hk s m args below h1 happ hP hK
  obtain ⟨k, o, h2, h3, h4, hQ⟩ := h p e ha hc hk s m args below h1 happ (hp _ _ hP) hK
  refine ⟨k, o, h2, h3, h4, ?_⟩
  rcases hQ with ⟨h5, L, h6, h7⟩ | ⟨q, h5, E, ce, L, h6, h7, h8, h9, h10, h11, h12⟩
  · exact Or.inl ⟨hq _ _ _ _ hP h5, L, h6, fun q hq => hf _ (h7 q hq)⟩
  · exact Or.inr ⟨q, h5, E, ce, L, hx _ _ _ h6, h7, h8, h9, h10, h11, fun z hz => hf _ (h12 z hz)⟩
section FR
variable {D : va_G} {cl : List vw_C} {A : Nat → Prop} {H H1 : Heap}
theorem va_P.perm {x y : va_W} (h : va_P D cl x H) (hp : x.Perm y) : va_P D cl y H := xt_P.mpr fun q hq => xt_P.mp h q (hp.mem_iff.mpr hq)
theorem va_D.perm {x y : va_W} (h : va_D A x) (hp : x.Perm y) : va_D A y := by
  obtain ⟨h1, h2⟩ := xt_D.mp h
  exact xt_D.mpr ⟨(hp.map _).nodup_iff.mp h1, fun q hq => h2 q (hp.mem_iff.mpr hq)⟩
theorem va_A.perm {x y : va_W} {sz : Nat} (hp : x.Perm y) {q : Nat} (h : va_A x sz q) : va_A y sz q := by
  rcases h with ⟨k, e, h⟩ | h
  · obtain ⟨j, hj⟩ := List.mem_iff_getElem?.mp (hp.mem_iff.mp (List.mem_of_getElem? h))
    exact Or.inl ⟨j, e, hj⟩
  · exact Or.inr h
theorem va_A.left {x y : va_W} {sz : Nat} {q : Nat} (h : va_A x sz q) : va_A (x ++ y) sz q := by
  rcases h with ⟨k, e, h⟩ | h
  · obtain ⟨j, hj⟩ := List.mem_iff_getElem?.mp (List.mem_append_left y (List.mem_of_getElem? h))
    exact Or.inl ⟨j, e, hj⟩
  · exact Or.inr h
/-- behind a call: what the callee has made of its part, and the rest -/
theorem fr_join {x wc wr w1 : va_W} {sz : Nat} (hz : H.size = sz) (hP : va_P D cl x H) (hD : va_D (fun _ => True) x) (hp : x.Perm (wc ++ wr)) (hk : ∀ q : Nat, q < H.size → ¬ va_A wc sz q → H1[q]? = H[q]?) (hP1 : va_P D cl w1 H1) (hD1 : va_D (va_A wc sz) w1) : va_P D cl (wr ++ w1) H1 ∧ va_D (va_A x sz) (wr ++ w1) := by
  subst hz
  have hD0 : va_D (va_A x H.size) x := ⟨hD.1, fun k q hq => Or.inl ⟨k, q.2, hq⟩⟩
  have n := (xt_D.mp (hD.perm hp)).1
  rw [List.map_append] at n
  obtain ⟨n1, n2, n3⟩ := List.nodup_append.mp n
  exact xt_gen hP hD0 (fun q hq => hp.mem_iff.mpr (List.mem_append_right _ hq)) n2 (fun q hq p hq2 e => n3 p.1 (List.mem_map.mpr ⟨p, hq2, rfl⟩) q.1 (List.mem_map.mpr ⟨q, hq, rfl⟩) e.symm) hk (fun q hq => va_A.perm hp.symm (va_A.left hq)) hP1 hD1
theorem fr_pre {x wc wr : va_W} {tys tys' : List (ClassId × FieldType)} {E : eT} {av : List Value} {sz : Nat} (hE : eOk E) (hp : x.Perm (wc ++ wr)) (ht : ∀ U, va_K D vwCl tys' U → va_K D vwCl tys U) (a : Array Value) (U : State) (h : va_Pc av (pC D x tys' E sz) a U) : va_Pc av (pC D wc tys E sz) a U := by
  obtain ⟨h1, h2, h3, h4, h5, h6⟩ := h
  exact ⟨h1, h2, xt_left (h3.perm hp), ht U h4, xt_leftD (h5.perm hp), hE.2.2.2 _ _ U U.heap (fun q hq => va_A.perm hp.symm (va_A.left hq)) h6⟩
end FR
section FRM
variable {l : Launch} {y : MethodName} {ws : List Cond} {rm : Room} {D : va_G} {x wc wr : va_W} {tys tys' : List (ClassId × FieldType)} {E : eT} {av : List Value} {sz mc ms : Nat} {S S' : Type} {w1 : S → va_W} {x1 : S' → va_W}
theorem Met.frame {post : Int32 → S → Prop} (h : Met l y ws rm (va_Pc av (pC D wc tys E sz)) (va_Qi post (fun (u : S) t => va_P D vwCl (w1 u) t.heap ∧ va_D (va_A wc sz) (w1 u)) (va_A wc sz)) mc ms (va_A wc sz)) (f : S → S') {post' : Int32 → S' → Prop} (hE : eOk E) (hp : x.Perm (wc ++ wr)) (ht : ∀ U, va_K D vwCl tys' U → va_K D vwCl tys U) (hp1 : ∀ r u, post r u → (wr ++ w1 u).Perm (x1 (f u))) (hpost : ∀ r u, post r u → post' r (f u)) :
    Met l y ws rm (va_Pc av (pC D x tys' E sz)) (va_Qi post' (fun (u : S') t => va_P D vwCl (x1 u) t.heap ∧ va_D (va_A x sz) (x1 u)) (va_A x sz)) mc ms (va_A x sz) := by
  refine Met.weak h (fun a U q => fr_pre hE hp ht a U q) (fun a st o t hP hQ => ?_) (fun q hq => va_A.perm hp.symm (va_A.left hq))
  obtain ⟨⟨r, u, h1, h2, h3, h4⟩, h5, h6⟩ := hQ
  obtain ⟨g1, g2⟩ := fr_join hP.2.1 hP.2.2.1 hP.2.2.2.2.1 hp (fun q q1 q2 => h6 q q1 q2) h3 h4
  exact ⟨⟨r, f u, h1, hpost r u h2, g1.perm (hp1 r u h2), g2.perm (hp1 r u h2)⟩, h5, fun q q1 q2 => h6 q q1 fun q3 => q2 (va_A.perm hp.symm (va_A.left q3))⟩
theorem Met.frameL {post : Int64 → S → Prop} (h : Met l y ws rm (va_Pc av (pC D wc tys E sz)) (va_Ql post (fun (u : S) t => va_P D vwCl (w1 u) t.heap ∧ va_D (va_A wc sz) (w1 u)) (va_A wc sz)) mc ms (va_A wc sz)) (f : S → S') {post' : Int64 → S' → Prop} (hE : eOk E) (hp : x.Perm (wc ++ wr)) (ht : ∀ U, va_K D vwCl tys' U → va_K D vwCl tys U) (hp1 : ∀ r u, post r u → (wr ++ w1 u).Perm (x1 (f u))) (hpost : ∀ r u, post r u → post' r (f u)) :
    Met l y ws rm (va_Pc av (pC D x tys' E sz)) (va_Ql post' (fun (u : S') t => va_P D vwCl (x1 u) t.heap ∧ va_D (va_A x sz) (x1 u)) (va_A x sz)) mc ms (va_A x sz) := by
  refine Met.weak h (fun a U q => fr_pre hE hp ht a U q) (fun a st o t hP hQ => ?_) (fun q hq => va_A.perm hp.symm (va_A.left hq))
  obtain ⟨⟨r, u, h1, h2, h3, h4⟩, h5, h6⟩ := hQ
  obtain ⟨g1, g2⟩ := fr_join hP.2.1 hP.2.2.1 hP.2.2.2.2.1 hp (fun q q1 q2 => h6 q q1 q2) h3 h4
  exact ⟨⟨r, f u, h1, hpost r u h2, g1.perm (hp1 r u h2), g2.perm (hp1 r u h2)⟩, h5, fun q q1 q2 => h6 q q1 fun q3 => q2 (va_A.perm hp.symm (va_A.left q3))⟩
theorem vx_Met.frame {post : Int32 → S → Prop} {XC : String → State → State → Prop} (h : vx_Met l y ws rm (va_Pc av (pC D wc tys E sz)) (va_Qi post (fun (u : S) t => va_P D vwCl (w1 u) t.heap ∧ va_D (va_A wc sz) (w1 u)) (va_A wc sz)) XC mc ms (va_A wc sz)) (f : S → S') {post' : Int32 → S' → Prop} (hE : eOk E) (hp : x.Perm (wc ++ wr)) (ht : ∀ U, va_K D vwCl tys' U → va_K D vwCl tys U) (hp1 : ∀ r u, post r u → (wr ++ w1 u).Perm (x1 (f u))) (hpost : ∀ r u, post r u → post' r (f u)) :
    vx_Met l y ws rm (va_Pc av (pC D x tys' E sz)) (va_Qi post' (fun (u : S') t => va_P D vwCl (x1 u) t.heap ∧ va_D (va_A x sz) (x1 u)) (va_A x sz)) XC mc ms (va_A x sz) := by
  refine vx_Met.weak h (fun a U q => fr_pre hE hp ht a U q) (fun a st o t hP hQ => ?_) (fun _ _ _ k => k) (fun q hq => va_A.perm hp.symm (va_A.left hq))
  obtain ⟨⟨r, u, h1, h2, h3, h4⟩, h5, h6⟩ := hQ
  obtain ⟨g1, g2⟩ := fr_join hP.2.1 hP.2.2.1 hP.2.2.2.2.1 hp (fun q q1 q2 => h6 q q1 q2) h3 h4
  exact ⟨⟨r, f u, h1, hpost r u h2, g1.perm (hp1 r u h2), g2.perm (hp1 r u h2)⟩, h5, fun q q1 q2 => h6 q q1 fun q3 => q2 (va_A.perm hp.symm (va_A.left q3))⟩
end FRM
/-- a literal list, put into another order by places -/
theorem perm_ix {α : Type} {L M : List α} (is : List Nat) (h : is.Perm (List.range L.length)) (hs : is.map (fun i => L[i]?) = M.map some) : L.Perm M := by
  have e1 : (List.range L.length).map (fun i => L[i]?) = L.map some := by
    apply List.ext_getElem?
    intro k
    rw [List.getElem?_map, List.getElem?_map]
    by_cases c : k < L.length
    · rw [List.getElem?_range c, List.getElem?_eq_getElem c]; simp [List.getElem?_eq_getElem c]
    · rw [List.getElem?_eq_none (by rw [List.length_range]; omega), List.getElem?_eq_none (by omega)]; rfl
  have p := h.map (fun i => L[i]?)
  rw [hs, e1] at p
  have q := p.symm.filterMap id
  rw [List.filterMap_map, List.filterMap_map] at q
  simpa using q

/-! the crane's whole world: 23 cells and the saved states -/
/-- a state of the crane: the present state's numbers and rows, the crane's own numbers (saved, next, text; gauge, trial, script), the saved states, text and script -/
abbrev CS : Type := (Nat → Int32) × (Nat → Nat → Int32) × (Nat → Int32) × (Nat → Option rowT) × (Nat → Nat → Int32)
def sfO (ro : Nat → Option rowT) : Nat → Option Nat := fun k => (ro k).map (fun r => r.1 0)
def cw17 (cyI cyS : ClassId) (aX aS : Nat → Nat) (iv : Nat → Int32) (av : Nat → Nat → Int32) (nm : Nat → Int32) (ro : Nat → Option rowT) : va_W := [((aX 0), .inr (8, [.ref (aS 0), .ref (aX 1), .int (nm 0), .int (nm 1), .ref (aX 2), .int (nm 2), .ref (aX 3), .ref (aX 6), .ref (aX 7)])), ((aX 1), .inl (cyS, 4, .inr (.inr (.inr (.inr (sfO ro)))))), ((aS 0), .inr (5, [.ref (aS 1), .ref (aS 2), .ref (aS 6), .ref (aS 8), .ref (aS 12), .int (iv 0), .int (iv 1), .int (iv 2), .int (iv 3)])), ((aS 1), .inr (0, [.int (iv 4), .int (iv 5), .int (iv 6), .int (iv 7), .int (iv 8), .int (iv 9), .int (iv 10)])), ((aS 2), .inr (1, [.ref (aS 3), .ref (aS 4), .ref (aS 5), .int (iv 11)])), ((aS 3), .inl (cyI, 96, .inl (av 0))), ((aS 4), .inl (cyI, 4, .inl (av 1))), ((aS 5), .inl (cyI, 4, .inl (av 2))), ((aS 6), .inr (7, [.ref (aS 7), .int (iv 12)])), ((aS 7), .inl (cyI, 24, .inl (av 3))), ((aS 8), .inr (3, [.ref (aS 9), .ref (aS 10), .ref (aS 11), .int (iv 13), .int (iv 14)])), ((aS 9), .inl (cyI, 30, .inl (av 4))), ((aS 10), .inl (cyI, 30, .inl (av 5))), ((aS 11), .inl (cyI, 30, .inl (av 6))), ((aS 12), .inr (6, [.ref (aS 13), .ref (aS 14), .int (iv 15)])), ((aS 13), .inl (cyI, 4, .inl (av 7))), ((aS 14), .inl (cyI, 8, .inl (av 8)))]
def cwG (aX : Nat → Nat) (nm : Nat → Int32) : va_W := [((aX 6), .inr (2, [.int (nm 3), .int (nm 4), .int (nm 5), .int (nm 6)])), ((aX 7), .inr (0, [.int (nm 7), .int (nm 8), .int (nm 9), .int (nm 10), .int (nm 11), .int (nm 12), .int (nm 13)]))]
def cwT (cyI : ClassId) (aX : Nat → Nat) (nm : Nat → Int32) (fa : Nat → Nat → Int32) : va_W := [((aX 3), .inr (4, [.ref (aX 4), .ref (aX 5), .int (nm 14), .int (nm 15), .int (nm 16), .int (nm 17)])), ((aX 4), .inl (cyI, 26, .inl (fa 1))), ((aX 5), .inl (cyI, 26, .inl (fa 2))), ((aX 2), .inl (cyI, 80, .inl (fa 0)))]
def rowW (cyI : ClassId) (o : Option rowT) : va_W := match o with
  | none => []
  | some r => stW cyI r.1 r.2.1 r.2.2
def rowsW (cyI : ClassId) (ro : Nat → Option rowT) : va_W := [0, 1, 2, 3].flatMap (fun k => rowW cyI (ro k))
def rowsB (cyI : ClassId) (ro : Nat → Option rowT) (j : Nat) : va_W := ([0, 1, 2, 3].erase j).flatMap (fun k => rowW cyI (ro k))
def CW (cyI cyS : ClassId) (aX aS : Nat → Nat) (c : CS) : va_W := (cw17 cyI cyS aX aS c.1 c.2.1 c.2.2.1 c.2.2.2.1 ++ (cwG aX c.2.2.1 ++ cwT cyI aX c.2.2.1 c.2.2.2.2)) ++ rowsW cyI c.2.2.2.1
theorem rows_p (cyI : ClassId) (ro : Nat → Option rowT) {j : Nat} (hj : j < 4) : (rowsW cyI ro).Perm (rowW cyI (ro j) ++ rowsB cyI ro j) := by
  have hm : j ∈ [0, 1, 2, 3] := by
    rcases (show j = 0 ∨ j = 1 ∨ j = 2 ∨ j = 3 by omega) with rfl | rfl | rfl | rfl <;> decide
  have p := (List.perm_cons_erase hm).flatMap_right (fun k => rowW cyI (ro k))
  rw [List.flatMap_cons] at p
  exact p
theorem rowsB_u (cyI : ClassId) (ro : Nat → Option rowT) {j : Nat} (hj : j < 4) (r : rowT) : rowsB cyI (rup ro j r) j = rowsB cyI ro j := by
  unfold rowsB rup
  rcases (show j = 0 ∨ j = 1 ∨ j = 2 ∨ j = 3 by omega) with rfl | rfl | rfl | rfl <;> rfl
theorem sfO_u (ro : Nat → Option rowT) (j : Nat) (r : rowT) : sfO (rup ro j r) = va_up (sfO ro) j (some (r.1 0)) := by
  funext k
  unfold sfO rup va_up
  by_cases c : k = j
  · rw [if_pos c, if_pos c]; rfl
  · rw [if_neg c, if_neg c]
theorem row_ok (cyI : ClassId) (ro : Nat → Option rowT) (j : Nat) : rowOK cyI (sfO ro) j (rowW cyI (ro j)) := by
  unfold rowOK sfO
  cases h : ro j with
  | none => exact Or.inl ⟨rfl, rfl⟩
  | some r => exact Or.inr ⟨r.1, r.2.1, r.2.2, rfl, rfl⟩
theorem perm4 {α : Type} (a b g r : List α) : ((a ++ b) ++ (g ++ r)).Perm ((a ++ g) ++ (b ++ r)) := by
  rw [List.append_assoc, List.append_assoc]
  exact List.Perm.append_left a (List.perm_append_comm_assoc b g r)
/-- a saving call's part of the world, and the rest -/
theorem perm_sv {L a b : va_W} (hL : L = a ++ b) (cyI : ClassId) (ro : Nat → Option rowT) {j : Nat} (hj : j < 4) : (L ++ rowsW cyI ro).Perm ((a ++ rowW cyI (ro j)) ++ (b ++ rowsB cyI ro j)) := by
  rw [hL]
  exact (List.Perm.append_left _ (rows_p cyI ro hj)).trans (perm4 _ _ _ _)
theorem perm_sv' {L a b : va_W} (hL : L = a ++ b) (cyI : ClassId) (ro : Nat → Option rowT) {j : Nat} (hj : j < 4) (r : rowT) : ((b ++ rowsB cyI ro j) ++ (a ++ stW cyI r.1 r.2.1 r.2.2)).Perm (L ++ rowsW cyI (rup ro j r)) := by
  have h := perm_sv hL cyI (rup ro j r) hj
  rw [rowsB_u cyI ro hj r, show rup ro j r j = some r from if_pos rfl] at h
  exact List.perm_append_comm.trans h.symm
/-- a call that saves nothing: part of the 23 cells -/
theorem perm_rd {L M N : va_W} (h : L.Perm (M ++ N)) (rows : va_W) : (L ++ rows).Perm (M ++ (N ++ rows)) := by
  rw [← List.append_assoc]
  exact h.append_right rows
theorem perm_rd' {L M N : va_W} (h : L.Perm (M ++ N)) (rows : va_W) : ((N ++ rows) ++ M).Perm (L ++ rows) := by
  refine List.perm_append_comm.trans ?_
  rw [← List.append_assoc]
  exact h.symm.append_right rows

/-! both sides' states, together -/
def relC (n : Nat) (c : CS) (svm : Int32) (zv z : Nat → Int32) : Prop := relSt c.1 c.2.1 z ∧ savR (c.2.2.1 0) (c.2.2.1 1) c.2.2.2.1 svm zv n ∧ bnd n z
def relX (c : CS) (tlm : Int32) (zt : Nat → Int32) : Prop := c.2.2.1 2 = tlm ∧ tlm = nI tlm.toNatClampNeg ∧ tlm.toNatClampNeg ≤ 80 ∧ ∀ k, k < 80 → c.2.2.2.2 0 k = zt k ∧ 0 ≤ (zt k).toInt
def kpT (c c' : CS) : Prop := c'.2.2.1 2 = c.2.2.1 2 ∧ c'.2.2.2.2 0 = c.2.2.2.2 0
theorem relX.kp {c c' : CS} {tlm : Int32} {zt : Nat → Int32} (h : relX c tlm zt) (k : kpT c c') : relX c' tlm zt := by
  obtain ⟨h1, h2, h3, h4⟩ := h
  exact ⟨by rw [k.1]; exact h1, h2, h3, by rw [k.2]; exact h4⟩
theorem savR.nx {svc svn svm : Int32} {ro : Nat → Option rowT} {zv : Nat → Int32} {n : Nat} (h : savR svc svn ro svm zv n) : svn = nI svn.toNatClampNeg ∧ svn.toNatClampNeg < 4 := by
  obtain ⟨s, p, e1, e2, e3, h4, h5, -⟩ := h
  have e : svn.toNatClampNeg = p := by rw [e3, nI_clamp (by omega)]
  exact ⟨by rw [e]; exact e3, by omega⟩
theorem savR.mono {svc svn svm : Int32} {ro : Nat → Option rowT} {zv : Nat → Int32} {m n : Nat} (h : savR svc svn ro svm zv m) (hm : m ≤ n) : savR svc svn ro svm zv n := by
  obtain ⟨s, p, e1, e2, e3, h4, h5, h6⟩ := h
  refine ⟨s, p, e1, e2, e3, h4, h5, fun j hj => ?_⟩
  obtain ⟨a, iv, av, r1, r2, r3⟩ := h6 j hj
  exact ⟨a, iv, av, r1, r2, r3.o' hm⟩
theorem relSt.cw {iv : Nat → Int32} {av : Nat → Nat → Int32} {z : Nat → Int32} (h : relSt iv av z) : iv 11 = 0 ∨ iv 11 = 1 := by
  have b := h.2.G.c10
  rw [h.2.1.1]
  by_cases c : (z 10).toInt = 0
  · exact Or.inl (Int32.toInt_inj.mp (by rw [c, l_0]))
  · exact Or.inr (Int32.toInt_inj.mp (by rw [l_1]; omega))
theorem relSt.zc {iv : Nat → Int32} {av : Nat → Nat → Int32} {z : Nat → Int32} (h : relSt iv av z) : 0 ≤ (iv 12).toInt ∧ (iv 12).toInt ≤ 6 := by
  rw [h.2.2.1.1]
  exact h.2.G.c18
theorem relSt.gc {iv : Nat → Int32} {av : Nat → Nat → Int32} {z : Nat → Int32} (h : relSt iv av z) : 0 ≤ (iv 14).toInt ∧ (iv 14).toInt ≤ 30 := by
  obtain ⟨o, c, e1, e2, e3, e4, e5, e6⟩ := h.2.2.2.1
  rw [e2, nI_toInt (by omega)]
  omega
theorem relSt.st {iv : Nat → Int32} {av : Nat → Nat → Int32} {z : Nat → Int32} (h : relSt iv av z) : relSt (stI (iv 0) (iv 1) (iv 2) (iv 3) (iv 4) (iv 5) (iv 6) (iv 7) (iv 8) (iv 9) (iv 10) (iv 11) (iv 12) (iv 13) (iv 14) (iv 15)) (stA (av 0) (av 1) (av 2) (av 3) (av 4) (av 5) (av 6) (av 7) (av 8)) z := h
/-- the state that a saving call leaves: the kept row, and the numbers -/
theorem relC.save {n : Nat} {iv iv' : Nat → Int32} {av av' : Nat → Nat → Int32} {nm : Nat → Int32} {ro : Nat → Option rowT} {fa : Nat → Nat → Int32} {svm : Int32} {zv z w : Nat → Int32} (h : relC n (iv, av, nm, ro, fa) svm zv z) {nm' : Nat → Int32} {fa' : Nat → Nat → Int32} (a : Nat → Nat) {m : Nat} (hm : n ≤ m) (hr : relSt iv' av' w) (hb : bnd m w) (h0 : nm' 0 = (x_X8_saveN (nm 0) (nm 1)).1) (h1 : nm' 1 = (x_X8_saveN (nm 0) (nm 1)).2) :
    relC m (iv', av', nm', rup ro (nm 1).toNatClampNeg (a, stI (iv 0) (iv 1) (iv 2) (iv 3) (iv 4) (iv 5) (iv 6) (iv 7) (iv 8) (iv 9) (iv 10) (iv 11) (iv 12) (iv 13) (iv 14) (iv 15), stA (av 0) (av 1) (av 2) (av 3) (av 4) (av 5) (av 6) (av 7) (av 8)), fa') (m_keep svm z zv).1 (m_keep svm z zv).2 w := by
  obtain ⟨h2, h3, h4⟩ := h
  refine ⟨hr, ?_, hb⟩
  have q := q_save h3 h2.st h4 a
  show savR (nm' 0) (nm' 1) _ _ _ m
  rw [h0, h1]
  exact q.mono hm

