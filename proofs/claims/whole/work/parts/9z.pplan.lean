/-! LETTERS OF STEPS: the class's and the reference's are the same -/
theorem spt5_ltr (c : Int) : sch (fun j => decide (ltr 13 j = c)) 5 0 = spt 5 c := by
  unfold spt
  refine sch_cg 5 0 (fun j h1 h2 => ?_)
  have : ∀ j, j < 5 → ltr 13 j = (sS 5).getD j 0 := by decide
  rw [this j (by omega)]
