/-! the start: both sides as their constructors leave them -/
def z0 : Nat → Int32 := upd (upd (upd (upd (upd (upd (upd (fun _ => (0 : Int32)) 0 (1500 : Int32)) 1 (600 : Int32)) 5 (200 : Int32)) 43 (2 : Int32)) 44 (2 : Int32)) 45 (2 : Int32)) 46 (2 : Int32)
def ce0 : Nat → Int32 := upd (upd (upd (upd (fun _ => (0 : Int32)) 0 (2 : Int32)) 1 (2 : Int32)) 2 (2 : Int32)) 3 (2 : Int32)
def f0 : Nat → Int32 := fun _ => (0 : Int32)
def iv0 : Nat → Int32 := stI 0 0 0 0 1500 600 0 0 0 0 200 0 0 0 0 (-1)
def av0 : Nat → Nat → Int32 := stA f0 ce0 f0 f0 f0 f0 f0 f0 f0
def nm0 : Nat → Int32 := fun k => ([0, 0, 0, 0, 0, 0, 0, 1500, 600, 0, 0, 0, 0, 200, 0, 0, 0, 0] : List Int32).getD k 0
def ro0 : Nat → Option rowT := fun _ => none
def fa0 : Nat → Nat → Int32 := fun _ => f0
def cs0 : CS := (iv0, av0, nm0, ro0, fa0)
def ms0 : MS := (i7 0 0 0 0 0 0 0, f6 z0 f0 f0 f0 f0 f0)
theorem mG_0 : mG z0 := by
  have h : ∀ k, k < 246 → mlo k ≤ (z0 k).toInt ∧ (z0 k).toInt ≤ mhi k := by decide +kernel
  exact h
theorem relSt_0 : relSt iv0 av0 z0 := by
  refine ⟨by decide +kernel, ⟨?_, ?_, ?_, ?_, mG_0, by unfold byt; decide +kernel⟩⟩
  · unfold cTab; decide +kernel
  · unfold cZon; decide +kernel
  · exact ⟨0, 0, rfl, rfl, by decide, by decide, by decide +kernel, fun i hi => absurd hi (by omega)⟩
  · unfold lifR; decide +kernel
theorem LR_0 : LR 0 cs0 ms0 := by
  refine ⟨⟨relSt_0, ⟨0, 0, rfl, rfl, rfl, by decide, by decide, fun j hj => absurd hj (by omega)⟩, by unfold bnd; decide +kernel⟩, rfl, by decide +kernel, by decide +kernel, fun k _ => ⟨rfl, ?_⟩⟩
  show 0 ≤ (0 : Int32).toInt
  decide

