/-! the reference: lowest heights, orders, sums -/
theorem tkR_bd (R : RW) (x : Int) (h : 0 ≤ R 1 ∧ R 1 ≤ 10) : 0 ≤ tkR R x ∧ tkR R x ≤ 10 := by
  have := sm_bd (f := fun k => if R (29 + 5 * k + 2) = x ∨ R (29 + 5 * k + 3) = x then 1 else 0) (a := 0) (b := 1) (R 1).toNat (fun z _ => by split <;> omega)
  unfold tkR
  omega
