/-- the first n of the row p are 0 or 1 -/
def eZ (M : eMem) (p n : Nat) : Bool := (List.range n).all (fun i => decide (M.1 p i = 0) || decide (M.1 p i = 1))
theorem eZ_iff {M : eMem} {p n : Nat} : eZ M p n = true ↔ ∀ i, i < n → M.1 p i = 0 ∨ M.1 p i = 1 := by
  simp [eZ, List.all_eq_true, List.mem_range]
theorem eZ_of {M : eMem} {p n : Nat} (h : eZ M p n = true) : ∀ i, i < n → M.1 p i = 0 ∨ M.1 p i = 1 := eZ_iff.mp h
