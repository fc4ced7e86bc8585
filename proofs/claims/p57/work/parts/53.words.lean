/-- the words of a class's fields -/
theorem wcl_ws : ∀ q ∈ wcl, ∀ w ∈ u_ws q.1 q.2.1 q.2.2, w ∈ lw_tb ∧ pW w = true := by
  have h : wcl.all (fun q => (u_ws q.1 q.2.1 q.2.2).all (fun w => decide (w ∈ lw_tb) && pW w)) = true := by decide +kernel
  intro q hq w hw
  have h1 := List.all_eq_true.mp (List.all_eq_true.mp h q hq) w hw
  simpa using h1
theorem wcl_ty : ∀ ci, ci < 12 → ∀ q, wcl[ci]? = some q → (ftag ci).length = q.2.2 ∧ (∀ k, k < q.2.2 → parseFieldDescriptor (q.2.1 k).2.2.1 = some (ffty ci k)) ∧ (∀ a, a < q.2.2 → ∀ b, b < q.2.2 → a ≠ b → (q.2.1 a).2.1 ≠ (q.2.1 b).2.1) := by
  have h : (List.range 12).all (fun ci => match wcl[ci]? with
    | some q => decide ((ftag ci).length = q.2.2) && (List.range q.2.2).all (fun k => decide (parseFieldDescriptor (q.2.1 k).2.2.1 = some (ffty ci k))) && (List.range q.2.2).all (fun a => (List.range q.2.2).all (fun b => decide (a = b) || decide ((q.2.1 a).2.1 ≠ (q.2.1 b).2.1)))
    | none => true) = true := by decide +kernel
  intro ci hci q hq
  have h1 := List.all_eq_true.mp h ci (List.mem_range.mpr hci)
  rw [hq] at h1
  simp only [Bool.and_eq_true, decide_eq_true_eq, List.all_eq_true, List.mem_range, Bool.or_eq_true] at h1
  exact ⟨h1.1.1, fun k hk => h1.1.2 k hk, fun a ha b hb hab => (h1.2 a ha b hb).resolve_left hab⟩
