/-! the reference: pairs, orders, passes that are tried -/
def hoP (K h g gap : Int) : Prop := if K = 60 then h + gap ≤ g else if K = 61 then h + gap = g else gap ≤ (if h < g then g - h else h - g)
theorem alwP_iff {K lf hf ls hs g : Int} (h1 : lf ≤ hf) (h2 : ls ≤ hs) (hg : ¬ K = 60 → ¬ K = 61 → 1 ≤ g) : alwP K lf hf ls hs g ↔ ∀ x y : Int, lf ≤ x → x ≤ hf → ls ≤ y → y ≤ hs → hoP K x y g := by
  unfold alwP hoP
  by_cases k1 : K = 60
  · simp only [if_pos k1]
    exact ⟨fun h x y a b c d => by omega, fun h => h hf ls h1 (by omega) (by omega) h2⟩
  · simp only [if_neg k1]
    by_cases k2 : K = 61
    · simp only [if_pos k2]
      refine ⟨fun h x y a b c d => by omega, fun h => ?_⟩
      have a := h hf ls h1 (by omega) (by omega) h2
      have b := h lf hs (by omega) h1 h2 (by omega)
      omega
    · simp only [if_neg k2]
      have g1 := hg k1 k2
      refine ⟨fun h x y a b c d => by split <;> omega, fun h => ?_⟩
      by_cases c1 : hs < lf
      · have a := h lf hs (by omega) h1 h2 (by omega)
        rw [if_neg (by omega)] at a
        omega
      · by_cases c2 : hf < ls
        · have a := h hf ls h1 (by omega) (by omega) h2
          rw [if_pos (by omega)] at a
          omega
        · by_cases c3 : lf < ls
          · have a := h ls ls (by omega) (by omega) (by omega) h2
            rw [if_neg (by omega)] at a
            omega
          · have a := h lf lf (by omega) h1 (by omega) (by omega)
            rw [if_neg (by omega)] at a
            omega
theorem nevP_iff {K lf hf ls hs g : Int} (h1 : lf ≤ hf) (h2 : ls ≤ hs) : nevP K lf hf ls hs g ↔ ∀ x y : Int, lf ≤ x → x ≤ hf → ls ≤ y → y ≤ hs → ¬ hoP K x y g := by
  unfold nevP hoP
  by_cases k1 : K = 60
  · simp only [if_pos k1]
    refine ⟨fun h x y a b c d => by omega, fun h => ?_⟩
    have a := h lf hs (by omega) h1 h2 (by omega)
    omega
  · simp only [if_neg k1]
    by_cases k2 : K = 61
    · simp only [if_pos k2]
      refine ⟨fun h x y a b c d => by omega, fun h => ?_⟩
      by_cases c1 : hs < lf + g
      · exact Or.inl c1
      · by_cases c2 : hf + g < ls
        · exact Or.inr c2
        · exfalso
          by_cases c3 : ls ≤ lf + g
          · exact h lf (lf + g) (by omega) h1 c3 (by omega) rfl
          · exact h (ls - g) ls (by omega) (by omega) (by omega) h2 (by omega)
    · simp only [if_neg k2]
      refine ⟨fun h x y a b c d => by split <;> omega, fun h => ?_⟩
      have a := h lf hs (by omega) h1 h2 (by omega)
      have b := h hf ls h1 (by omega) (by omega) h2
      split at a <;> split at b <;> omega

theorem all_up {Q : Int → Prop} {a y : Int} (h : a ≤ y) : (∀ t, a ≤ t → t < y + 1 → Q t) ↔ (∀ t, a ≤ t → t < y → Q t) ∧ Q y := by
  refine ⟨fun q => ⟨fun t h1 h2 => q t h1 (by omega), q y h (by omega)⟩, fun q t h1 h2 => ?_⟩
  by_cases e : t = y
  · rw [e]; exact q.2
  · exact q.1 t h1 (by omega)
