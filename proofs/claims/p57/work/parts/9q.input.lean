/-! the input's text, and what is read of the output -/
theorem mkK_ne {B : HP} {k : Nat × Nat} {w a : Nat} (h : a ≠ hn B) : hK (mk B k w) a = hK B a := if_neg h
theorem mkK_eq {B : HP} {k : Nat × Nat} {w : Nat} : hK (mk B k w) (hn B) = k := if_pos rfl
