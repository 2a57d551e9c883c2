/-! the three exceptions: their words -/
def exN : List String := ["java/lang/RuntimeException", "java/lang/Exception"]
def exB (X : String) : List Cond := declL.map Cond.declares ++ [.castable X X]
section EXW
variable {args : Array Value} {s : State} {A : Nat → Prop}
theorem ex_hat {X : String} {ic : Nat} {c0 : Cond} (hX : X ∈ [nIO, nIA, nIS]) (h1 : (vx_atS RX8 ic X exN).all (fun w => !goodWord w || decide (w ∈ lw_tbl)) = true) (h2 : ((vx_atS RX8 ic X exN).filter (fun w => !goodWord w)).all (fun w => decide (w ∈ exB X)) = true) (hts : ∀ w ∈ c0 :: wB, w.before args s = true) (he : eX A s s.heap) : ∀ w ∈ vx_atS RX8 ic X exN, w.before args s = true := by
  refine vx_hat (B := exB X) (fun w hw => ?_) (fun w hw => of_decide_eq_true (List.all_eq_true.mp h2 w hw)) (fun w hw => ?_)
  · obtain ⟨h3, h4⟩ := List.mem_filter.mp hw
    have h5 := List.all_eq_true.mp h1 w h3
    rw [h4] at h5
    exact hts w (List.mem_cons_of_mem _ (List.mem_filter.mpr ⟨of_decide_eq_true h5, h4⟩))
  · obtain ⟨e1, e2, -⟩ := he.exc
    rcases List.mem_append.mp hw with h | h
    · obtain ⟨y, hy, rfl⟩ := List.mem_map.mp h
      exact va_Nw.use rfl (e1 y hy)
    · rw [List.mem_singleton.mp h]
      exact va_Nw.use rfl (e2 X hX)
theorem exIO_hat {c0 : Cond} (hts : ∀ w ∈ c0 :: wB, w.before args s = true) (he : eX A s s.heap) : ∀ w ∈ vx_atS RX8 270 nIO exN, w.before args s = true := ex_hat (by decide) (by decide +kernel) (by decide +kernel) hts he
theorem exIA_hat {c0 : Cond} (hts : ∀ w ∈ c0 :: wB, w.before args s = true) (he : eX A s s.heap) : ∀ w ∈ vx_atS RX8 277 nIA exN, w.before args s = true := ex_hat (by decide) (by decide +kernel) (by decide +kernel) hts he
theorem exIS_hat {c0 : Cond} (hts : ∀ w ∈ c0 :: wB, w.before args s = true) (he : eX A s s.heap) : ∀ w ∈ vx_atS RX8 284 nIS exN, w.before args s = true := ex_hat (by decide) (by decide +kernel) (by decide +kernel) hts he
theorem exIO_ot : ∀ w ∈ Cond.classLink RX8 266 nIO :: Cond.initialized nIO :: vx_atS RX8 270 nIO exN, vx_ot w = true := by decide +kernel
theorem exIA_ot : ∀ w ∈ Cond.classLink RX8 273 nIA :: Cond.initialized nIA :: vx_atS RX8 277 nIA exN, vx_ot w = true := by decide +kernel
theorem exIS_ot : ∀ w ∈ Cond.classLink RX8 280 nIS :: Cond.initialized nIS :: vx_atS RX8 284 nIS exN, vx_ot w = true := by decide +kernel
theorem xS_wk {H0 H : Heap} {locs : List Loc} (h : va_S aF H0 H locs) : va_S A H0 H locs := ⟨h.1, fun q hq _ => h.2.1 q hq (fun z => z), fun l hl => (h.2.2 l hl).elim⟩
theorem xF_thr {H : Heap} {locs : List Loc} (hS : va_S aF s.heap H locs) {t : State} (hz : H.size ≤ t.heap.size) (hk : ∀ q : Nat, q < H.size → t.heap[q]? = H[q]?) : va_F aF s t :=
  ⟨Nat.le_trans hS.1 hz, fun q h1 h2 => (hk q (Nat.lt_of_lt_of_le h1 hS.1)).trans (hS.2.1 q h1 h2)⟩
end EXW
/-- what the tests of arguments and state ask -/
def okI (a n : Int32) : Prop := 0 ≤ a.toInt ∧ a.toInt < n.toInt
def okA (v lo hi : Int32) : Prop := lo.toInt ≤ v.toInt ∧ v.toInt ≤ hi.toInt
def okS (b : Int32) : Prop := ¬ b = 0
def oppo (mos : Int32) (k : Nat) : Prop := mos &&& ((3 : Int32) <<< (nI k &&& 31)) = (3 : Int32) <<< (nI k &&& 31)
def okN (mos : Int32) : Prop := ∀ k ∈ [0, 2, 4, 6], ¬ oppo mos k
theorem okI_0 {a n : Int32} (h : a < 0) : ¬ okI a n := fun k => by
  have h1 := Int32.lt_iff_toInt_lt.mp h
  have z : ((0 : Int32)).toInt = 0 := by decide
  have := k.1
  omega
theorem okI_1 {a n : Int32} (h : ¬ a < n) : ¬ okI a n := fun k => h (Int32.lt_iff_toInt_lt.mpr k.2)
theorem okI_2 {a n : Int32} (h : ¬ a < 0) (h2 : a < n) : okI a n := ⟨xnn h, Int32.lt_iff_toInt_lt.mp h2⟩
theorem okA_0 {v lo hi : Int32} (h : v < lo) : ¬ okA v lo hi := fun k => by
  have h1 := Int32.lt_iff_toInt_lt.mp h
  have := k.1
  omega
theorem okA_1 {v lo hi : Int32} (h : ¬ v ≤ hi) : ¬ okA v lo hi := fun k => h (Int32.le_iff_toInt_le.mpr k.2)
theorem okA_2 {v lo hi : Int32} (h : ¬ v < lo) (h2 : v ≤ hi) : okA v lo hi := ⟨Int32.le_iff_toInt_le.mp (Int32.not_lt.mp h), Int32.le_iff_toInt_le.mp h2⟩

