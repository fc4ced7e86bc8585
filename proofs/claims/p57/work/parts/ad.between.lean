/-! the output read, and what holds between two calls of the law -/
theorem doT_len {q : Int} {R : RW} (hW : WfR q R) {x : Nat} (hx : x < 6) : (doT R x).length ≤ 16 := by
  have nB := doB_len hW hx
  have nC : (doC R x).length ≤ 9 := by unfold doC; rw [List.length_append]; show (doB R x).length + 1 ≤ 9; omega
  unfold doT
  split
  · omega
  · rw [List.length_append]
    show (doC R x).length + 1 ≤ 16
    omega
theorem s_X_outputAt {d : Nat} {B : HP} {I : IM} {Post : Out → HP → Prop} (hX : LX B) {l : List Int} (hl : sbT I 158 159 l) (hl9 : l.length ≤ 16) {x : Int} (hv : r32 x) (pE : ¬ (0 ≤ x ∧ x < (l.length : Int)) → Post (.inr 2) (wI (junk B 6) I)) (p1 : 0 ≤ x ∧ x < (l.length : Int) → Post (.inl (some (.int (i3 (l.getD x.toNat 0))))) (wI B I)) : Sp (d + 5) k_X8_outputAt [.ref 0, .int (i3 (x))] (wI B I) Post := by
  refine Sp_intro md_X8_outputAt rfl rfl (fun G hG => ?_)
  have hX0 := hX
  obtain ⟨x0, x1, x2, x3, x4, x5, x6, x7, x8, x9, x10, x11, x12, x13, x14, x15, x16, x17, x18, x19, x20, x21, x22, x23, x24, x25, x26, x27, x28, x29, x30, x31, x32, x33, x34, x35, x36, x37, x38, x39, x40, x41, x42, x43, x44⟩ := hX
  obtain ⟨d1, d2, d3, d4, hF, hBd, hCo⟩ := x10
  obtain ⟨f1, f2, f3, f4, f5⟩ := hF
  obtain ⟨g1, g2, g3, g4, g5⟩ := hBd
  obtain ⟨c1, c2, c3, c4, c5, c6, c7, c8, c9, c10, c11⟩ := hCo
  obtain ⟨t1, t2, t3, t4, t5⟩ := x12
  have hv1 := hv.1
  have hv2 := hv.2
  have hO : oS B 158 159 16 := ⟨by assumption, by assumption, by assumption, by decide, by decide⟩
  have tc := hl.2.2.2
  show G 0 [some (.ref 0), some (.int (i3 (x)))] [] (wI B I)
  refine q_iload_n hG rfl rfl ?_
  refine q_if_lt hG rfl ⟨by omega, by omega⟩ (fun hc1 => ?_) (fun hc1 => ?_)
  · refine q_throw hG rfl ?_
    exact pE (by omega)
  · refine q_iload_n hG rfl rfl ?_
    refine q_aload_n hG rfl rfl ?_
    refine q_getR hG rfl (by assumption) (by assumption) ?_
    refine q_callV6 hG rfl rfl rfl (by assumption) (s_J_len hO.1 (z := (l.length : Int)) hl.2.1 ?_)
    refine q_icmp_lt hG rfl ⟨by omega, by omega⟩ ⟨by omega, by omega⟩ (fun hc12 => ?_) (fun hc12 => ?_)
    · refine q_aload_n hG rfl rfl ?_
      refine q_getR hG rfl (by assumption) (by assumption) ?_
      refine q_iload_n hG rfl rfl ?_
      refine q_callV6 hG rfl rfl rfl (by assumption) (s_J_at hO hl (j := x) ⟨by omega, by omega⟩ hl9 ?_)
      have hcj := tc.at (i := x.toNat) (by omega)
      refine q_iret3 hG rfl rfl (by omega) ?_
      exact p1 (by omega)
    · refine q_throw hG rfl ?_
      exact pE (by omega)
theorem ruT_len {q : Int} {R : RW} (hW : WfR q R) (hq9 : q ≤ 999999999) {p : Nat} (hpl : (p : Int) < R 1) : (ruT R p).length ≤ 16 := by
  obtain ⟨w0, w1, w2, w3, w4, wd, wc⟩ := hW
  obtain ⟨y1, y2, y3, y4, y5, y6, y7⟩ := wc p hpl
  have e10 : (10 : Nat) ^ (8 + 1) = 1000000000 := by decide
  have n1 := decL_le 8 (R (29 + 5 * p)).toNat (by rw [e10]; omega)
  have n2 := decL_le 0 (R (29 + 5 * p + 2)).toNat (by omega)
  have n3 := decL_le 0 (R (29 + 5 * p + 3)).toNat (by omega)
  have n4 := decL_le 1 (R (29 + 5 * p + 4)).toNat (by omega)
  have nA : (ruA R p).length ≤ 13 := by unfold ruA; simp only [List.length_append, List.length_cons, List.length_nil]; omega
  unfold ruT
  split
  · omega
  · rw [List.length_append, List.length_append]
    show (ruA R p).length + 1 + _ ≤ 16
    omega
theorem CSt.row {I J : IM} {R : RW} {c : Int} {h : Nat → RW} {sv : Int} {SR : RW} {eo why det cau : Int} (hC : CSt I R c h sv SR eo why det cau) (hr : ∀ a, a ≤ 145 ∨ a = 152 ∨ a = 157 → J a = I a) : CSt J R c h sv SR eo why det cau := by
  obtain ⟨a1, ⟨nx, a2⟩, a3, a4, a5, a6, a7, a8, a9⟩ := hC
  have e0 := hr 0 (by omega)
  exact ⟨a1.row (fun a p q => hr a (by omega)), ⟨nx, a2.row (fun a p q => hr a (by omega))⟩, by rw [e0]; exact a3, fun hs => (a4 hs).row (fun a p q => hr a (by omega)), by rw [e0]; exact a5, by rw [e0]; exact a6, by rw [e0]; exact a7, by rw [e0]; exact a8, fun k hk => by rw [hr 152 (by omega), hr 157 (by omega)]; exact a9 k hk⟩
theorem kS.mv {B B' : HP} {I J : IM} {k : Nat} {l : List Int} (h : kS B I k l) (hk : ∀ a, BIG ≤ a → hK B' a = hK B a) (hh : ∀ a i, BIG ≤ a → hR B' a i = hR B a i) (hr : ∀ a, BIG ≤ a → J a = I a) : kS B' J k l := by
  obtain ⟨a, b, c, d, e, f⟩ := h
  exact ⟨(hk _ (by omega)).trans a, (hh _ _ (by omega)).trans b, by rw [hr _ (by omega)]; exact c, (hk _ (by omega)).trans d, fun i hi => by rw [hr _ (by omega)]; exact e i hi, f⟩
theorem kC.mv {B B' : HP} {I J : IM} (h : kC B I) (hk : ∀ a, BIG ≤ a → hK B' a = hK B a) (hr : ∀ a, BIG ≤ a → J a = I a) : kC B' J := ⟨(hk _ (by omega)).trans h.1, (hk _ (by omega)).trans h.2.1, fun i hi => by rw [hr _ (by omega), hr _ (by omega)]; exact h.2.2 i hi⟩
