/-! what is written: constraints; the reference -/
/-- the output and what was thrown change -/
def ofz (I J : IM) (m : Nat) : Prop := (∀ a, a ≠ m → a ≠ m + 3 → J a = I a) ∧ ∀ k, k ≠ 0 → k ≠ 14 → J m k = I m k
theorem s_X_writeConstraint {d : Nat} {B : HP} {I : IM} {Post : Out → HP → Prop} (hX : LX B) {R : RW} (hR : RepC I 1 R) {q : Int} (hW : WfR q R) (hq : q ≤ 2000000000) (hq9 : q ≤ 999999999) {x : Int} (hv : r32 x) {l : List Int} (hl : sbT I 158 159 l) (hl16 : l.length ≤ 16) (hk9 : kC B I) (pE : noR R x → Post (.inr 3) (wI (junk B 6) I)) (p1 : ∀ p : Nat, fdR R x p → ∀ J : IM, sbT J 158 159 (ruT R p) → (∀ a, a ≠ 158 → a ≠ 159 → J a = I a) → Post (.inl (some (.int (i3 ((ruT R p).length : Int))))) (wI B J)) : Sp (d + 6) k_X8_writeConstraint [.ref 0, .int (i3 (x))] (wI B I) Post := by
  refine Sp_intro md_X8_writeConstraint rfl rfl (fun G hG => ?_)
  have hX0 := hX
  obtain ⟨x0, x1, x2, x3, x4, x5, x6, x7, x8, x9, x10, x11, x12, x13, x14, x15, x16, x17, x18, x19, x20, x21, x22, x23, x24, x25, x26, x27, x28, x29, x30, x31, x32, x33, x34, x35, x36, x37, x38, x39, x40, x41, x42, x43, x44⟩ := hX
  obtain ⟨d1, d2, d3, d4, hF, hBd, hCo⟩ := x10
  obtain ⟨f1, f2, f3, f4, f5⟩ := hF
  obtain ⟨g1, g2, g3, g4, g5⟩ := hBd
  obtain ⟨c1, c2, c3, c4, c5, c6, c7, c8, c9, c10, c11⟩ := hCo
  obtain ⟨t1, t2, t3, t4, t5⟩ := x12
  have hR0 := hR
  obtain ⟨r0, r1, r2, r3, r4, rd, rc, ry⟩ := hR
  have r1 : I 8 0 = R 1 := r1
  have r2 : I 8 1 = R 2 := r2
  have rd : ∀ k, k < 6 → I 3 k = R (5 + 4 * k) ∧ I 4 k = R (5 + 4 * k + 1) ∧ I 6 k = R (5 + 4 * k + 2) ∧ I 7 k = R (5 + 4 * k + 3) := rd
  have rc : ∀ k : Nat, (k : Int) < R 1 → I 9 k = R (29 + 5 * k) ∧ I 10 k = R (29 + 5 * k + 1) ∧ I 11 k = R (29 + 5 * k + 2) ∧ I 12 k = R (29 + 5 * k + 3) ∧ I 13 k = R (29 + 5 * k + 4) := rc
  have ry : ∀ k, k < 10 → 0 ≤ I 10 k ∧ I 10 k < 65536 := ry
  have hW0 := hW
  obtain ⟨w0, w1, w2, w3, w4, wd, wc⟩ := hW
  have hO : oS B 158 159 16 := (⟨hX0.2.2.2.2.2.2.2.2.2.2.2.2.2.2.2.2.2.2.2.2.2.2.2.2.2.2.2.2.2.2.2.2.1, hX0.2.2.2.2.2.2.2.2.2.2.2.2.2.2.2.2.2.2.2.2.2.2.2.2.2.2.2.2.2.2.2.2.2.1, hX0.2.2.2.2.2.2.2.2.2.2.2.2.2.2.2.2.2.2.2.2.2.2.2.2.2.2.2.2.2.2.2.2.2.2.1, by decide, by decide⟩ : oS B 158 159 16)
  have hb9 : (158 : Nat) < BIG := by decide
  have hb8 : (159 : Nat) < BIG := by decide
  show G 0 [some (.ref 0), some (.int (i3 (x))), none, none] [] (wI B I)
  refine q_aload_n hG rfl rfl ?_
  refine q_iload_n hG rfl rfl ?_
  refine q_callV6 hG rfl rfl rfl (by assumption) (s_X_ckPos hX0 hR0 hW0 hq hv (fun p hf => ?_) (fun hf => ?_))
  · have hpl := hf.1
    obtain ⟨v1, v2, v3, v4, v5⟩ := rc p (by omega)
    obtain ⟨y1, y2, y3, y4, y5, y6, y7⟩ := wc p (by omega)
    have cid : x = ((R (29 + 5 * p)).toNat : Int) := by have := hf.2.1; omega
    have e10 : (10 : Nat) ^ (8 + 1) = 1000000000 := by decide
    have n1 := decL_le 8 (R (29 + 5 * p)).toNat (by rw [e10]; omega)
    have n2 := decL_le 0 (R (29 + 5 * p + 2)).toNat (by omega)
    have n3 := decL_le 0 (R (29 + 5 * p + 3)).toNat (by omega)
    have n4 := decL_le 1 (R (29 + 5 * p + 4)).toNat (by omega)
    have c2 : R (29 + 5 * p + 2) = ((R (29 + 5 * p + 2)).toNat : Int) := by omega
    have c3 : R (29 + 5 * p + 3) = ((R (29 + 5 * p + 3)).toNat : Int) := by omega
    have c4 : R (29 + 5 * p + 4) = ((R (29 + 5 * p + 4)).toNat : Int) := by omega
    have nA : (ruA R p).length ≤ 13 := by unfold ruA; simp only [List.length_append, List.length_cons, List.length_nil]; omega
    refine q_istore_n hG rfl rfl ?_
    refine q_aload_n hG rfl rfl ?_
    refine q_getR hG rfl (by assumption) (by assumption) ?_
    refine q_getR hG rfl (by assumption) (by assumption) ?_
    refine q_astore_n hG rfl rfl ?_
    refine q_aload_n hG rfl rfl ?_
    refine q_getR hG rfl (by assumption) (by assumption) ?_
    refine q_iconst (v := 0) hG rfl rfl ?_
    refine q_callV6 hG rfl rfl rfl (by assumption) (s_J_set hO hl hl16 (fun J0 a0 b0 => ?_))
    have f0 : ∀ a, a ≠ 158 → a ≠ 159 → J0 a = I a := fun a h1 h2 => (b0 a h1).trans rfl
    refine q_aload_n hG rfl rfl ?_
    refine q_getR hG rfl (by assumption) (by assumption) ?_
    refine q_iload_n hG rfl rfl ?_
    rw [cid]
    refine q_callV6 hG rfl rfl rfl (by assumption) (s_J_num hO a0 (by omega) (sbT.frm f0 hb9 hb8 hk9) hb8 (by first | omega | (simp only [List.length_append, List.length_cons, List.length_nil]; omega) | (show (0 : Nat) + _ ≤ _; omega)) (fun J1 a1 b1 => ?_))
    have f1 : ∀ a, a ≠ 158 → a ≠ 159 → J1 a = I a := fun a h1 h2 => (b1 a h1 h2).trans (f0 a h1 h2)
    have a1 : sbT J1 158 159 (decL (R (29 + 5 * p)).toNat) := a1
    refine q_bipush (v := 58) hG rfl rfl ?_
    refine q_callV6 hG rfl rfl rfl (by assumption) (s_J_app hO a1 (by omega) (by first | omega | (simp only [List.length_append, List.length_cons, List.length_nil]; omega) | (show (0 : Nat) + _ ≤ _; omega)) (fun J2 a2 b2 => ?_))
    have f2 : ∀ a, a ≠ 158 → a ≠ 159 → J2 a = I a := fun a h1 h2 => (b2 a h1 h2).trans (f1 a h1 h2)
    have a2 : sbT J2 158 159 (decL (R (29 + 5 * p)).toNat ++ [58]) := a2
    refine q_aload_n hG rfl rfl ?_
    refine q_getR hG rfl (by assumption) (by assumption) ?_
    refine q_iload_n hG rfl rfl ?_
    refine q_ialdv (v := R (29 + 5 * p + 2)) hG rfl (by assumption) ⟨by omega, by omega, by omega⟩ (by rw [f2 11 (by decide) (by decide)]; exact v3) ?_
    rw [c2]
    refine q_callV6 hG rfl rfl rfl (by assumption) (s_J_num hO a2 (by omega) (sbT.frm f2 hb9 hb8 hk9) hb8 (by first | omega | (simp only [List.length_append, List.length_cons, List.length_nil]; omega) | (show (0 : Nat) + _ ≤ _; omega)) (fun J3 a3 b3 => ?_))
    have f3 : ∀ a, a ≠ 158 → a ≠ 159 → J3 a = I a := fun a h1 h2 => (b3 a h1 h2).trans (f2 a h1 h2)
    have a3 : sbT J3 158 159 (decL (R (29 + 5 * p)).toNat ++ [58] ++ decL (R (29 + 5 * p + 2)).toNat) := a3
    refine q_pop hG rfl rfl ?_
    refine q_aload_n hG rfl rfl ?_
    refine q_getR hG rfl (by assumption) (by assumption) ?_
    refine q_aload_n hG rfl rfl ?_
    refine q_getR hG rfl (by assumption) (by assumption) ?_
    refine q_iload_n hG rfl rfl ?_
    refine q_caldv (v := R (29 + 5 * p + 1)) hG rfl (by assumption) ⟨by omega, by omega, by omega⟩ (by rw [f3 10 (by decide) (by decide)]; exact v2) ?_
    refine q_callV6 hG rfl rfl rfl (by assumption) (s_J_app hO a3 (by omega) (by first | omega | (simp only [List.length_append, List.length_cons, List.length_nil]; omega) | (show (0 : Nat) + _ ≤ _; omega)) (fun J4 a4 b4 => ?_))
    have f4 : ∀ a, a ≠ 158 → a ≠ 159 → J4 a = I a := fun a h1 h2 => (b4 a h1 h2).trans (f3 a h1 h2)
    have a4 : sbT J4 158 159 (decL (R (29 + 5 * p)).toNat ++ [58] ++ decL (R (29 + 5 * p + 2)).toNat ++ [R (29 + 5 * p + 1)]) := a4
    refine q_aload_n hG rfl rfl ?_
    refine q_getR hG rfl (by assumption) (by assumption) ?_
    refine q_iload_n hG rfl rfl ?_
    refine q_ialdv (v := R (29 + 5 * p + 3)) hG rfl (by assumption) ⟨by omega, by omega, by omega⟩ (by rw [f4 12 (by decide) (by decide)]; exact v4) ?_
    rw [c3]
    refine q_callV6 hG rfl rfl rfl (by assumption) (s_J_num hO a4 (by omega) (sbT.frm f4 hb9 hb8 hk9) hb8 (by first | omega | (simp only [List.length_append, List.length_cons, List.length_nil]; omega) | (show (0 : Nat) + _ ≤ _; omega)) (fun J5 a5 b5 => ?_))
    have f5 : ∀ a, a ≠ 158 → a ≠ 159 → J5 a = I a := fun a h1 h2 => (b5 a h1 h2).trans (f4 a h1 h2)
    have a5 : sbT J5 158 159 (ruA R p) := a5
    refine q_pop hG rfl rfl ?_
    refine q_aload_n hG rfl rfl ?_
    refine q_getR hG rfl (by assumption) (by assumption) ?_
    refine q_iload_n hG rfl rfl ?_
    refine q_ialdv (v := R (29 + 5 * p + 4)) hG rfl (by assumption) ⟨by omega, by omega, by omega⟩ (by rw [f5 13 (by decide) (by decide)]; exact v5) ?_
    refine q_if_eq hG rfl ⟨by omega, by omega⟩ (fun hc74 => ?_) (fun hc74 => ?_)
    · have eT : ruT R p = ruA R p := by unfold ruT; exact if_pos (by omega)
      have aE := a5
      have fE := f5
      refine q_aload_n hG rfl rfl ?_
      refine q_getR hG rfl (by assumption) (by assumption) ?_
      refine q_callV6 hG rfl rfl rfl (by assumption) (s_J_len hO.1 (z := ((ruT R p).length : Int)) ?_ ?_)
      · rw [eT]; exact aE.2.1
      · refine q_iret0 hG rfl rfl ?_
        exact p1 p hf _ (by rw [eT]; exact aE) fE
    · refine q_aload_n hG rfl rfl ?_
      refine q_getR hG rfl (by assumption) (by assumption) ?_
      refine q_bipush (v := 43) hG rfl rfl ?_
      refine q_callV6 hG rfl rfl rfl (by assumption) (s_J_app hO a5 (by omega) (by first | omega | (simp only [List.length_append, List.length_cons, List.length_nil]; omega) | (show (0 : Nat) + _ ≤ _; omega)) (fun J6 a6 b6 => ?_))
      have f6 : ∀ a, a ≠ 158 → a ≠ 159 → J6 a = I a := fun a h1 h2 => (b6 a h1 h2).trans (f5 a h1 h2)
      have a6 : sbT J6 158 159 (ruA R p ++ [43]) := a6
      refine q_aload_n hG rfl rfl ?_
      refine q_getR hG rfl (by assumption) (by assumption) ?_
      refine q_iload_n hG rfl rfl ?_
      refine q_ialdv (v := R (29 + 5 * p + 4)) hG rfl (by assumption) ⟨by omega, by omega, by omega⟩ (by rw [f6 13 (by decide) (by decide)]; exact v5) ?_
      rw [c4]
      refine q_callV6 hG rfl rfl rfl (by assumption) (s_J_num hO a6 (by omega) (sbT.frm f6 hb9 hb8 hk9) hb8 (by first | omega | (simp only [List.length_append, List.length_cons, List.length_nil]; omega) | (show (0 : Nat) + _ ≤ _; omega)) (fun J7 a7 b7 => ?_))
      have f7 : ∀ a, a ≠ 158 → a ≠ 159 → J7 a = I a := fun a h1 h2 => (b7 a h1 h2).trans (f6 a h1 h2)
      have a7 : sbT J7 158 159 (ruA R p ++ [43] ++ decL (R (29 + 5 * p + 4)).toNat) := a7
      refine q_pop hG rfl rfl ?_
      have eT : ruT R p = ruA R p ++ [43] ++ decL (R (29 + 5 * p + 4)).toNat := by unfold ruT; exact if_neg (by omega)
      have aE := a7
      have fE := f7
      refine q_aload_n hG rfl rfl ?_
      refine q_getR hG rfl (by assumption) (by assumption) ?_
      refine q_callV6 hG rfl rfl rfl (by assumption) (s_J_len hO.1 (z := ((ruT R p).length : Int)) ?_ ?_)
      · rw [eT]; exact aE.2.1
      · refine q_iret0 hG rfl rfl ?_
        exact p1 p hf _ (by rw [eT]; exact aE) fE
  · exact pE hf
