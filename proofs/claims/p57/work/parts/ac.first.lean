/-! the first heap -/
def Z0 : HP := (fun _ => (0, 0), fun _ _ => 0, fun _ _ => 0, fun _ _ => none, fun _ _ => 0, 0, 0)
theorem run_eq : ∀ (l : List OP) {B C : HP}, hn B = hn C → (∀ b, b < hn B → hK B b = hK C b ∧ hR B b = hR C b) → hn (run l B) = hn (run l C) ∧ ∀ b, b < hn (run l B) → hK (run l B) b = hK (run l C) b ∧ hR (run l B) b = hR (run l C) b
  | [], _, _, h1, h2 => ⟨h1, h2⟩
  | (0, k, n, w) :: l, B, C, h1, h2 => by
    refine run_eq l (B := mk B (k, n) w) (C := mk C (k, n) w) (congrArg (· + 1) h1) (fun b hb => ?_)
    have hb : b < hn B + 1 := hb
    by_cases e : b = hn B
    · refine ⟨?_, funext (fun i => ?_)⟩
      · show (if b = hn B then (k, n) else hK B b) = (if b = hn C then (k, n) else hK C b)
        rw [if_pos e, if_pos (by omega)]
      · show (if b = hn B then none else hR B b i) = (if b = hn C then none else hR C b i)
        rw [if_pos e, if_pos (by omega)]
    · obtain ⟨a1, a2⟩ := h2 b (by omega)
      refine ⟨?_, funext (fun i => ?_)⟩
      · show (if b = hn B then (k, n) else hK B b) = (if b = hn C then (k, n) else hK C b)
        rw [if_neg e, if_neg (by omega), a1]
      · show (if b = hn B then none else hR B b i) = (if b = hn C then none else hR C b i)
        rw [if_neg e, if_neg (by omega), a2]
  | (1, a, i, v) :: l, B, C, h1, h2 => by
    refine run_eq l (B := sR B a i (some v)) (C := sR C a i (some v)) h1 (fun b hb => ?_)
    obtain ⟨a1, a2⟩ := h2 b hb
    refine ⟨a1, funext (fun j => ?_)⟩
    show (if b = a ∧ j = i then some v else hR B b j) = (if b = a ∧ j = i then some v else hR C b j)
    rw [a2]
  | (t + 2, a, c, n) :: l, B, C, h1, h2 => by
    refine run_eq l (B := mkG B 6 1 c n) (C := mkG C 6 1 c n) (congrArg (· + 1 + c) h1) (fun b hb => ?_)
    have hb : b < hn B + 1 + c := hb
    have eK : ∀ D : HP, hK (mkG D 6 1 c n) b = if b = hn D then (6, c) else if hn D < b ∧ b ≤ hn D + c then (1, n) else hK D b := fun _ => rfl
    have eR : ∀ (D : HP) (j : Nat), hR (mkG D 6 1 c n) b j = if b = hn D then (if j < c then some (hn D + 1 + j) else none) else if hn D ≤ b ∧ b ≤ hn D + c then none else hR D b j := fun _ _ => rfl
    refine ⟨?_, funext (fun j => ?_)⟩
    · rw [eK, eK, ← h1]
      by_cases e : b < hn B
      · rw [if_neg (by omega), if_neg (by omega), if_neg (by omega), if_neg (by omega)]
        exact (h2 b e).1
      · by_cases e2 : b = hn B
        · rw [if_pos e2, if_pos e2]
        · rw [if_neg e2, if_neg e2, if_pos (by omega), if_pos (by omega)]
    · rw [eR, eR, ← h1]
      by_cases e : b < hn B
      · rw [if_neg (by omega), if_neg (by omega), if_neg (by omega), if_neg (by omega)]
        rw [(h2 b e).2]
      · by_cases e2 : b = hn B
        · rw [if_pos e2, if_pos e2]
        · rw [if_neg e2, if_neg e2, if_pos (by omega), if_pos (by omega)]
/-- fields of cells ahead of c alone are set -/
def ltA (c : Nat) : List OP → Bool
  | [] => true
  | (1, a, _, _) :: l => Nat.blt a c && ltA c l
  | _ :: l => ltA c l
theorem run_hi : ∀ (l : List OP) {B : HP} {c b : Nat}, ltA c l = true → hn (run l B) ≤ b → c ≤ b → hK (run l B) b = hK B b ∧ hR (run l B) b = hR B b
  | [], _, _, _, _, _, _ => ⟨rfl, rfl⟩
  | (0, k, n, w) :: l, B, c, b, h1, h2, h3 => by
    have hl := run_n l (mk B (k, n) w)
    have hb : hn B + 1 ≤ b := by
      have h2 : hn (run l (mk B (k, n) w)) ≤ b := h2
      rw [hl] at h2
      have : hn (mk B (k, n) w) = hn B + 1 := rfl
      omega
    obtain ⟨a1, a2⟩ := run_hi l (B := mk B (k, n) w) h1 h2 h3
    exact ⟨a1.trans (if_neg (by omega)), a2.trans (funext (fun i => if_neg (by omega)))⟩
  | (1, a, i, v) :: l, B, c, b, h1, h2, h3 => by
    have h1 : (Nat.blt a c && ltA c l) = true := h1
    obtain ⟨q1, q2⟩ := and_t h1
    have q1 := blt_ok q1
    obtain ⟨a1, a2⟩ := run_hi l (B := sR B a i (some v)) q2 h2 h3
    exact ⟨a1, a2.trans (funext (fun j => if_neg (by omega)))⟩
  | (t + 2, a, k, n) :: l, B, c, b, h1, h2, h3 => by
    have hl := run_n l (mkG B 6 1 k n)
    have hb : hn B + 1 + k ≤ b := by
      have h2 : hn (run l (mkG B 6 1 k n)) ≤ b := h2
      rw [hl] at h2
      have : hn (mkG B 6 1 k n) = hn B + 1 + k := rfl
      omega
    obtain ⟨a1, a2⟩ := run_hi l (B := mkG B 6 1 k n) h1 h2 h3
    refine ⟨a1.trans ?_, a2.trans (funext (fun i => ?_))⟩
    · show (if b = hn B then _ else if hn B < b ∧ b ≤ hn B + k then _ else hK B b) = _
      rw [if_neg (by omega), if_neg (by omega)]
    · show (if b = hn B then _ else if hn B ≤ b ∧ b ≤ hn B + k then none else hR B b i) = _
      rw [if_neg (by omega), if_neg (by omega)]
/-- objects are as they were, the text's reference aside -/
def cgB (B C : HP) : Prop := ∀ b, b < 178 → hK C b = hK B b ∧ ∀ i, ¬ (b = 161 ∧ i = 0) → hR C b i = hR B b i
theorem oB.cg {B C : HP} {b : Nat} (x : oB B b) (h : ∀ a, b ≤ a → a < b + 3 → hK C a = hK B a ∧ ∀ i, ¬ (a = 161 ∧ i = 0) → hR C a i = hR B a i) (hb : b + 3 ≤ 161) : oB C b := by
  obtain ⟨a1, a2, a3, a4, a5⟩ := x
  exact ⟨(h b (by omega) (by omega)).1.trans a1, ((h b (by omega) (by omega)).2 0 (by omega)).trans a2, ((h b (by omega) (by omega)).2 1 (by omega)).trans a3, (h (b + 1) (by omega) (by omega)).1.trans a4, (h (b + 2) (by omega) (by omega)).1.trans a5⟩
theorem oC.cg {B C : HP} {b : Nat} (x : oC B b) (h : ∀ a, b ≤ a → a < b + 6 → hK C a = hK B a ∧ ∀ i, ¬ (a = 161 ∧ i = 0) → hR C a i = hR B a i) (hb : b + 6 ≤ 161) : oC C b := by
  obtain ⟨a1, a2, a3, a4, a5, a6, a7, a8, a9, a10, a11⟩ := x
  have hb0 := h b (by omega) (by omega)
  exact ⟨hb0.1.trans a1, (hb0.2 2 (by omega)).trans a2, (hb0.2 3 (by omega)).trans a3, (hb0.2 4 (by omega)).trans a4, (hb0.2 5 (by omega)).trans a5, (hb0.2 6 (by omega)).trans a6, (h (b + 1) (by omega) (by omega)).1.trans a7, (h (b + 2) (by omega) (by omega)).1.trans a8, (h (b + 3) (by omega) (by omega)).1.trans a9, (h (b + 4) (by omega) (by omega)).1.trans a10, (h (b + 5) (by omega) (by omega)).1.trans a11⟩
theorem oD.cg {B C : HP} {b : Nat} (x : oD B b) (h : ∀ a, b ≤ a → a < b + 13 → hK C a = hK B a ∧ ∀ i, ¬ (a = 161 ∧ i = 0) → hR C a i = hR B a i) (hb : b + 13 ≤ 161) : oD C b := by
  obtain ⟨a1, a2, a3, a4, a5, a6, a7⟩ := x
  have hb0 := h b (by omega) (by omega)
  exact ⟨hb0.1.trans a1, (hb0.2 1 (by omega)).trans a2, (hb0.2 2 (by omega)).trans a3, (hb0.2 3 (by omega)).trans a4, a5.cg (fun a p q => h a (by omega) (by omega)) (by omega), a6.cg (fun a p q => h a (by omega) (by omega)) (by omega), a7.cg (fun a p q => h a (by omega) (by omega)) (by omega)⟩
theorem LX.cg {B C : HP} (hx : LX B) (h : cgB B C) : LX C := by
  obtain ⟨x0, x1, x2, x3, x4, x5, x6, x7, x8, x9, x10, x11, x12, x13, x14, x15, x16, x17, x18, x19, x20, x21, x22, x23, x24, x25, x26, x27, x28, x29, x30, x31, x32, x33, x34, x35, x36, x37, x38, x39, x40, x41, x42, x43, x44⟩ := hx
  exact ⟨(h 0 (by decide)).1.trans x0, ((h 0 (by decide)).2 0 (by decide)).trans x1, ((h 0 (by decide)).2 1 (by decide)).trans x2, ((h 0 (by decide)).2 2 (by decide)).trans x3, ((h 0 (by decide)).2 4 (by decide)).trans x4, ((h 0 (by decide)).2 5 (by decide)).trans x5, ((h 0 (by decide)).2 6 (by decide)).trans x6, ((h 0 (by decide)).2 7 (by decide)).trans x7, ((h 0 (by decide)).2 8 (by decide)).trans x8, ((h 0 (by decide)).2 9 (by decide)).trans x9, x10.cg (fun b h1 h2 => h b (by omega)) (by decide), x11.cg (fun b h1 h2 => h b (by omega)) (by decide), x12.cg (fun b h1 h2 => h b (by omega)) (by decide), (h 149 (by decide)).1.trans x13, (h 150 (by decide)).1.trans x14, ((h 150 (by decide)).2 0 (by decide)).trans x15, ((h 150 (by decide)).2 1 (by decide)).trans x16, (h 151 (by decide)).1.trans x17, (h 152 (by decide)).1.trans x18, (h 153 (by decide)).1.trans x19, ((h 153 (by decide)).2 0 (by decide)).trans x20, ((h 153 (by decide)).2 2 (by decide)).trans x21, (h 154 (by decide)).1.trans x22, (h 155 (by decide)).1.trans x23, ((h 155 (by decide)).2 0 (by decide)).trans x24, ((h 155 (by decide)).2 1 (by decide)).trans x25, (h 156 (by decide)).1.trans x26, (h 157 (by decide)).1.trans x27, (h 14 (by decide)).1.trans x28, ((h 14 (by decide)).2 2 (by decide)).trans x29, (h 15 (by decide)).1.trans x30, fun i hi => ⟨((h 15 (by decide)).2 i (by omega)).trans (x31 i hi).1, (x31 i hi).2.cg (fun b h1 h2 => h b (by omega)) (by omega)⟩, (h 158 (by decide)).1.trans x32, ((h 158 (by decide)).2 0 (by decide)).trans x33, (h 159 (by decide)).1.trans x34, (h 160 (by decide)).1.trans x35, ((h 160 (by decide)).2 0 (by decide)).trans x36, ((h 160 (by decide)).2 3 (by decide)).trans x37, ((h 160 (by decide)).2 4 (by decide)).trans x38, ((h 160 (by decide)).2 5 (by decide)).trans x39, (h 161 (by decide)).1.trans x40, (h 163 (by decide)).1.trans x41, (h 164 (by decide)).1.trans x42, (h 165 (by decide)).1.trans x43, fun i hi => ⟨((h 165 (by decide)).2 i (by omega)).trans (x44 i hi).1, (h (166 + i) (by omega)).1.trans (x44 i hi).2⟩⟩
theorem cgB.refl (B : HP) : cgB B B := fun _ _ => ⟨rfl, fun _ _ => rfl⟩
