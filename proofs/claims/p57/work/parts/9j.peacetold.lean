/-! the reference: peace, told -/
theorem fp_one {R : RW} {b c : Nat → Int} (hb : fpR R b) (hc : fpR R c) : ∀ k, k < (R 0).toNat → b k = c k := by
  apply Classical.byContradiction
  intro hn
  have q : ∀ n : Nat, n ≤ (R 0).toNat → ∀ k, k < n → b k = c k := fun n => by
    induction n with
    | zero => intro _ k hk; omega
    | succ n ih =>
      intro hn2 k hk
      have e := ih (by omega)
      by_cases z : k = n
      · rw [z]
        by_cases h1 : b n < c n
        · exact absurd ⟨n, by omega, h1, e⟩ (hc.2 b hb.1)
        · by_cases h2 : c n < b n
          · exact absurd ⟨n, by omega, h2, fun j hj => (e j hj).symm⟩ (hb.2 c hc.1)
          · omega
      · exact e k (by omega)
  exact hn (q _ (Nat.le_refl _))
