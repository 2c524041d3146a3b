/-! small facts -/
theorem oa_ne {k : Nat} (h : k < 2 ^ 31) : nI k ≠ -1 := by
  intro e
  have e2 := congrArg Int32.toInt e
  rw [nI_toInt h, show (-1 : Int32).toInt = -1 from by decide] at e2
  omega
theorem oa_inj {a b : Nat} (ha : a < 2 ^ 31) (hb : b < 2 ^ 31) (h : nI a = nI b) : a = b := (nI_eq ha hb).mp h
theorem oa_m1lt : (-1 : Int32) < 0 := by decide
theorem oa_m1cl : (-1 : Int32).toNatClampNeg = 0 := by decide
/-- a cell of a square of side 16 -/
theorem oa_cell {u v a b : Nat} (hv : v < 16) (hb : b < 16) : u * 16 + v = a * 16 + b ↔ u = a ∧ v = b := by
  constructor
  · intro h; constructor <;> omega
  · rintro ⟨rfl, rfl⟩; rfl
