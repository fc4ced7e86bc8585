/-! what is written: constraints; the reference -/
/-- the output and what was thrown change -/
def ofz (I J : IM) (m : Nat) : Prop := (∀ a, a ≠ m → a ≠ m + 3 → J a = I a) ∧ ∀ k, k ≠ 0 → k ≠ 14 → J m k = I m k
theorem ofz.mk {I J : IM} {m : Nat} {z : Int} (h : ofr (st (st I m 0 z) m 14 0) J m) : ofz I J m := ⟨fun a p q => by rw [h.1 a p q, st_row _ _ p, st_row _ _ p], fun k p q => by rw [h.2 k q, st_ne _ _ (fun z => q z.2), st_ne _ _ (fun z => p z.2)]⟩
theorem wrR.clear (I : IM) (m : Nat) : wrR (st I m 14 0) m [] := ⟨st_same _ _ _ _, fun i hi => absurd hi (by simp), chL.nil⟩
theorem s_X_writeConstraint {d : Nat} {B : HP} {I : IM} {Post : Out → HP → Prop} (hX : LX B) {R : RW} (hR : RepC I 1 R) {q : Int} (hW : WfR q R) (hq : q ≤ 2000000000) (hq9 : q ≤ 999999999) {x : Int} (hv : r32 x) {l : List Int} (hl : sbT I 158 159 l) (hl16 : l.length ≤ 16) (hk9 : kC B I) (pE : noR R x → Post (.inr 3) (wI (junk B 6) I)) (p1 : ∀ p : Nat, fdR R x p → ∀ J : IM, sbT J 158 159 (ruT R p) → (∀ a, a ≠ 158 → a ≠ 159 → J a = I a) → Post (.inl (some (.int (i3 ((ruT R p).length : Int))))) (wI B J)) : Sp (d + 6) k_X8_writeConstraint [.ref 0, .int (i3 (x))] (wI B I) Post := by
  refine Sp_intro md_X8_writeConstraint rfl rfl (fun G hG => ?_)
  have hX0 := hX
  obtain ⟨x0, x1, x2, x3, x4, x5, x6, x7, x8, x9, x10, x11, x12, x13, x14, x15, x16, x17, x18, x19, x20, x21, x22, x23, x24, x25, x26, x27, x28, x29, x30, x31, x32, x33, x34, x35, x36, x37, x38, x39, x40, x41, x42, x43, x44⟩ := hX
  obtain ⟨d1, d2, d3, d4, hF, hBd, hCo⟩ := x10
  obtain ⟨f1, f2, f3, f4, f5⟩ := hF
  obtain ⟨g1, g2, g3, g4, g5⟩ := hBd
  obtain ⟨c1, c2, c3, c4, c5, c6, c7, c8, c9, c10, c11⟩ := hCo
  obtain ⟨t1, t2, t3, t4, t5⟩ := x12
  have hR0 := hR
  obtain ⟨r0, r1, r2, r3, r4, rd, rc, ry⟩ := hR
  have r1 : I 8 0 = R 1 := r1
  have r2 : I 8 1 = R 2 := r2
  have rd : ∀ k, k < 6 → I 3 k = R (5 + 4 * k) ∧ I 4 k = R (5 + 4 * k + 1) ∧ I 6 k = R (5 + 4 * k + 2) ∧ I 7 k = R (5 + 4 * k + 3) := rd
  have rc : ∀ k : Nat, (k : Int) < R 1 → I 9 k = R (29 + 5 * k) ∧ I 10 k = R (29 + 5 * k + 1) ∧ I 11 k = R (29 + 5 * k + 2) ∧ I 12 k = R (29 + 5 * k + 3) ∧ I 13 k = R (29 + 5 * k + 4) := rc
  have ry : ∀ k, k < 10 → 0 ≤ I 10 k ∧ I 10 k < 65536 := ry
  have hW0 := hW
  obtain ⟨w0, w1, w2, w3, w4, wd, wc⟩ := hW
  have hO : oS B 158 159 16 := (⟨hX0.2.2.2.2.2.2.2.2.2.2.2.2.2.2.2.2.2.2.2.2.2.2.2.2.2.2.2.2.2.2.2.2.1, hX0.2.2.2.2.2.2.2.2.2.2.2.2.2.2.2.2.2.2.2.2.2.2.2.2.2.2.2.2.2.2.2.2.2.1, hX0.2.2.2.2.2.2.2.2.2.2.2.2.2.2.2.2.2.2.2.2.2.2.2.2.2.2.2.2.2.2.2.2.2.2.1, by decide, by decide⟩ : oS B 158 159 16)
  have hb9 : (158 : Nat) < BIG := by decide
  have hb8 : (159 : Nat) < BIG := by decide
  show G 0 [some (.ref 0), some (.int (i3 (x))), none, none] [] (wI B I)
  refine q_aload_n hG rfl rfl ?_
  refine q_iload_n hG rfl rfl ?_
  refine q_callV6 hG rfl rfl rfl (by assumption) (s_X_ckPos hX0 hR0 hW0 hq hv (fun p hf => ?_) (fun hf => ?_))
  · have hpl := hf.1
    obtain ⟨v1, v2, v3, v4, v5⟩ := rc p (by omega)
    obtain ⟨y1, y2, y3, y4, y5, y6, y7⟩ := wc p (by omega)
    have cid : x = ((R (29 + 5 * p)).toNat : Int) := by have := hf.2.1; omega
    have e10 : (10 : Nat) ^ (8 + 1) = 1000000000 := by decide
    have n1 := decL_le 8 (R (29 + 5 * p)).toNat (by rw [e10]; omega)
    have n2 := decL_le 0 (R (29 + 5 * p + 2)).toNat (by omega)
    have n3 := decL_le 0 (R (29 + 5 * p + 3)).toNat (by omega)
    have n4 := decL_le 1 (R (29 + 5 * p + 4)).toNat (by omega)
    have c2 : R (29 + 5 * p + 2) = ((R (29 + 5 * p + 2)).toNat : Int) := by omega
    have c3 : R (29 + 5 * p + 3) = ((R (29 + 5 * p + 3)).toNat : Int) := by omega
    have c4 : R (29 + 5 * p + 4) = ((R (29 + 5 * p + 4)).toNat : Int) := by omega
    have nA : (ruA R p).length ≤ 13 := by unfold ruA; simp only [List.length_append, List.length_cons, List.length_nil]; omega
    refine q_istore_n hG rfl rfl ?_
    refine q_aload_n hG rfl rfl ?_
    refine q_getR hG rfl (by assumption) (by assumption) ?_
    refine q_getR hG rfl (by assumption) (by assumption) ?_
    refine q_astore_n hG rfl rfl ?_
    refine q_aload_n hG rfl rfl ?_
    refine q_getR hG rfl (by assumption) (by assumption) ?_
    refine q_iconst (v := 0) hG rfl rfl ?_
    refine q_callV6 hG rfl rfl rfl (by assumption) (s_J_set hO hl hl16 (fun J0 a0 b0 => ?_))
    have f0 : ∀ a, a ≠ 158 → a ≠ 159 → J0 a = I a := fun a h1 h2 => (b0 a h1).trans rfl
    refine q_aload_n hG rfl rfl ?_
    refine q_getR hG rfl (by assumption) (by assumption) ?_
    refine q_iload_n hG rfl rfl ?_
    rw [cid]
    refine q_callV6 hG rfl rfl rfl (by assumption) (s_J_num hO a0 (by omega) (sbT.frm f0 hb9 hb8 hk9) hb8 (by first | omega | (simp only [List.length_append, List.length_cons, List.length_nil]; omega) | (show (0 : Nat) + _ ≤ _; omega)) (fun J1 a1 b1 => ?_))
    have f1 : ∀ a, a ≠ 158 → a ≠ 159 → J1 a = I a := fun a h1 h2 => (b1 a h1 h2).trans (f0 a h1 h2)
    have a1 : sbT J1 158 159 (decL (R (29 + 5 * p)).toNat) := a1
    refine q_bipush (v := 58) hG rfl rfl ?_
    refine q_callV6 hG rfl rfl rfl (by assumption) (s_J_app hO a1 (by omega) (by first | omega | (simp only [List.length_append, List.length_cons, List.length_nil]; omega) | (show (0 : Nat) + _ ≤ _; omega)) (fun J2 a2 b2 => ?_))
    have f2 : ∀ a, a ≠ 158 → a ≠ 159 → J2 a = I a := fun a h1 h2 => (b2 a h1 h2).trans (f1 a h1 h2)
    have a2 : sbT J2 158 159 (decL (R (29 + 5 * p)).toNat ++ [58]) := a2
    refine q_aload_n hG rfl rfl ?_
    refine q_getR hG rfl (by assumption) (by assumption) ?_
    refine q_iload_n hG rfl rfl ?_
    refine q_ialdv (v := R (29 + 5 * p + 2)) hG rfl (by assumption) ⟨by omega, by omega, by omega⟩ (by rw [f2 11 (by decide) (by decide)]; exact v3) ?_
    rw [c2]
    refine q_callV6 hG rfl rfl rfl (by assumption) (s_J_num hO a2 (by omega) (sbT.frm f2 hb9 hb8 hk9) hb8 (by first | omega | (simp only [List.length_append, List.length_cons, List.length_nil]; omega) | (show (0 : Nat) + _ ≤ _; omega)) (fun J3 a3 b3 => ?_))
    have f3 : ∀ a, a ≠ 158 → a ≠ 159 → J3 a = I a := fun a h1 h2 => (b3 a h1 h2).trans (f2 a h1 h2)
    have a3 : sbT J3 158 159 (decL (R (29 + 5 * p)).toNat ++ [58] ++ decL (R (29 + 5 * p + 2)).toNat) := a3
    refine q_pop hG rfl rfl ?_
    refine q_aload_n hG rfl rfl ?_
    refine q_getR hG rfl (by assumption) (by assumption) ?_
    refine q_aload_n hG rfl rfl ?_
    refine q_getR hG rfl (by assumption) (by assumption) ?_
    refine q_iload_n hG rfl rfl ?_
    refine q_caldv (v := R (29 + 5 * p + 1)) hG rfl (by assumption) ⟨by omega, by omega, by omega⟩ (by rw [f3 10 (by decide) (by decide)]; exact v2) ?_
    refine q_callV6 hG rfl rfl rfl (by assumption) (s_J_app hO a3 (by omega) (by first | omega | (simp only [List.length_append, List.length_cons, List.length_nil]; omega) | (show (0 : Nat) + _ ≤ _; omega)) (fun J4 a4 b4 => ?_))
    have f4 : ∀ a, a ≠ 158 → a ≠ 159 → J4 a = I a := fun a h1 h2 => (b4 a h1 h2).trans (f3 a h1 h2)
    have a4 : sbT J4 158 159 (decL (R (29 + 5 * p)).toNat ++ [58] ++ decL (R (29 + 5 * p + 2)).toNat ++ [R (29 + 5 * p + 1)]) := a4
    refine q_aload_n hG rfl rfl ?_
    refine q_getR hG rfl (by assumption) (by assumption) ?_
    refine q_iload_n hG rfl rfl ?_
    refine q_ialdv (v := R (29 + 5 * p + 3)) hG rfl (by assumption) ⟨by omega, by omega, by omega⟩ (by rw [f4 12 (by decide) (by decide)]; exact v4) ?_
    rw [c3]
    refine q_callV6 hG rfl rfl rfl (by assumption) (s_J_num hO a4 (by omega) (sbT.frm f4 hb9 hb8 hk9) hb8 (by first | omega | (simp only [List.length_append, List.length_cons, List.length_nil]; omega) | (show (0 : Nat) + _ ≤ _; omega)) (fun J5 a5 b5 => ?_))
    have f5 : ∀ a, a ≠ 158 → a ≠ 159 → J5 a = I a := fun a h1 h2 => (b5 a h1 h2).trans (f4 a h1 h2)
    have a5 : sbT J5 158 159 (ruA R p) := a5
    refine q_pop hG rfl rfl ?_
    refine q_aload_n hG rfl rfl ?_
    refine q_getR hG rfl (by assumption) (by assumption) ?_
    refine q_iload_n hG rfl rfl ?_
    refine q_ialdv (v := R (29 + 5 * p + 4)) hG rfl (by assumption) ⟨by omega, by omega, by omega⟩ (by rw [f5 13 (by decide) (by decide)]; exact v5) ?_
    refine q_if_eq hG rfl ⟨by omega, by omega⟩ (fun hc74 => ?_) (fun hc74 => ?_)
    · have eT : ruT R p = ruA R p := by unfold ruT; exact if_pos (by omega)
      have aE := a5
      have fE := f5
      refine q_aload_n hG rfl rfl ?_
      refine q_getR hG rfl (by assumption) (by assumption) ?_
      refine q_callV6 hG rfl rfl rfl (by assumption) (s_J_len hO.1 (z := ((ruT R p).length : Int)) ?_ ?_)
      · rw [eT]; exact aE.2.1
      · refine q_iret0 hG rfl rfl ?_
        exact p1 p hf _ (by rw [eT]; exact aE) fE
    · refine q_aload_n hG rfl rfl ?_
      refine q_getR hG rfl (by assumption) (by assumption) ?_
      refine q_bipush (v := 43) hG rfl rfl ?_
      refine q_callV6 hG rfl rfl rfl (by assumption) (s_J_app hO a5 (by omega) (by first | omega | (simp only [List.length_append, List.length_cons, List.length_nil]; omega) | (show (0 : Nat) + _ ≤ _; omega)) (fun J6 a6 b6 => ?_))
      have f6 : ∀ a, a ≠ 158 → a ≠ 159 → J6 a = I a := fun a h1 h2 => (b6 a h1 h2).trans (f5 a h1 h2)
      have a6 : sbT J6 158 159 (ruA R p ++ [43]) := a6
      refine q_aload_n hG rfl rfl ?_
      refine q_getR hG rfl (by assumption) (by assumption) ?_
      refine q_iload_n hG rfl rfl ?_
      refine q_ialdv (v := R (29 + 5 * p + 4)) hG rfl (by assumption) ⟨by omega, by omega, by omega⟩ (by rw [f6 13 (by decide) (by decide)]; exact v5) ?_
      rw [c4]
      refine q_callV6 hG rfl rfl rfl (by assumption) (s_J_num hO a6 (by omega) (sbT.frm f6 hb9 hb8 hk9) hb8 (by first | omega | (simp only [List.length_append, List.length_cons, List.length_nil]; omega) | (show (0 : Nat) + _ ≤ _; omega)) (fun J7 a7 b7 => ?_))
      have f7 : ∀ a, a ≠ 158 → a ≠ 159 → J7 a = I a := fun a h1 h2 => (b7 a h1 h2).trans (f6 a h1 h2)
      have a7 : sbT J7 158 159 (ruA R p ++ [43] ++ decL (R (29 + 5 * p + 4)).toNat) := a7
      refine q_pop hG rfl rfl ?_
      have eT : ruT R p = ruA R p ++ [43] ++ decL (R (29 + 5 * p + 4)).toNat := by unfold ruT; exact if_neg (by omega)
      have aE := a7
      have fE := f7
      refine q_aload_n hG rfl rfl ?_
      refine q_getR hG rfl (by assumption) (by assumption) ?_
      refine q_callV6 hG rfl rfl rfl (by assumption) (s_J_len hO.1 (z := ((ruT R p).length : Int)) ?_ ?_)
      · rw [eT]; exact aE.2.1
      · refine q_iret0 hG rfl rfl ?_
        exact p1 p hf _ (by rw [eT]; exact aE) fE
  · exact pE hf
theorem s_R_writeDoor {d : Nat} {B : HP} {I : IM} {Post : Out → HP → Prop} {m : Nat} (hm : oM B m) {R : RW} {q : Int} (hR : RepM I m 0 R) (hW : WfR q R) (hq : q ≤ 2000000000) {x : Int} (hv : r32 x) (pE : ¬ (0 ≤ x ∧ x < R 0) → ∀ J : IM, sth I J m → J m 0 = 1 → Post (.inl (some (.int (i3 0)))) (wI B J)) (p1 : 0 ≤ x ∧ x < R 0 → ∀ J : IM, ofz I J m → J m 0 = 0 → wrR J m (doT R x.toNat) → Post (.inl (some (.int (i3 ((doT R x.toNat).length : Int))))) (wI B J)) : Sp (d + 5) k_X9_writeDoor [.ref m, .int (i3 (x))] (wI B I) Post := by
  refine Sp_intro md_X9_writeDoor rfl rfl (fun G hG => ?_)
  have hm0 := hm
  obtain ⟨n1, n2, n3, n4, n5, n6, n7, n8, n9, n10, n11⟩ := hm
  have hR0 : ∀ j, j < 79 → I (m + 1) j = R j := hR.at
  have hRs : ∀ z : Int, ∀ j, j < 79 → st I m 0 z (m + 1) j = R j := fun z j hj => by rw [st_row _ _ (by omega)]; exact hR0 j hj
  have hW0 := hW
  obtain ⟨w0, w1, w2, w3, w4, wd, wc⟩ := hW
  have hdb : ∀ k, k < 6 → (0 ≤ R (5 + 4 * k + 2) ∧ R (5 + 4 * k + 2) ≤ 40) ∧ (0 ≤ R (5 + 4 * k + 3) ∧ R (5 + 4 * k + 3) ≤ 40) ∧ R (5 + 4 * k + 2) ≤ R (5 + 4 * k + 3) := fun k hk => by have u := (wd k hk).1; omega
  have hRz : ∀ j, j < 79 → (st (st I m 0 0) m 14 0) (m + 1) j = R j := fun j hj => by rw [st_row _ _ (by omega), st_row _ _ (by omega)]; exact hR0 j hj
  show G 0 [some (.ref m), some (.int (i3 (x)))] [] (wI B I)
  refine q_aload_n hG rfl rfl ?_
  refine q_aload_n hG rfl rfl ?_
  refine q_iload_n hG rfl rfl ?_
  refine q_callV6 hG rfl rfl rfl (by assumption) (s_R_isDoor hm0 hv (by rw [hR0 0 (by omega)]; exact w0) (fun hd => ?_) (fun hd => ?_))
  · rw [hR0 0 (by omega)] at hd
    refine q_callV6 hG rfl rfl rfl (by assumption) (s_R_fine1 hm0 ?_)
    refine q_if_ne hG rfl ⟨by omega, by omega⟩ (fun _ => ?_) (fun q => absurd (by decide) q)
    obtain ⟨xn, rfl⟩ : ∃ xn : Nat, x = (xn : Int) := ⟨x.toNat, by omega⟩
    have ex9 : (xn : Int).toNat = xn := by omega
    rw [ex9] at p1
    have d9 := (wd xn (by omega)).1
    have n1 := decL_le 0 xn (by omega)
    have n2 := decL_le 1 (R (5 + 4 * xn + 2)).toNat (by omega)
    have n3 := decL_le 1 (R (5 + 4 * xn + 3)).toNat (by omega)
    have nB := doB_len hW0 (x := xn) (by omega)
    have nA := doA_len hW0 (x := xn) (by omega)
    have clo : R (5 + 4 * xn + 2) = ((R (5 + 4 * xn + 2)).toNat : Int) := by omega
    have chi : R (5 + 4 * xn + 3) = ((R (5 + 4 * xn + 3)).toNat : Int) := by omega
    refine q_aload_n hG rfl rfl ?_
    refine q_iconst (v := 0) hG rfl rfl ?_
    refine q_putI0 hG rfl (by assumption) ?_
    refine q_aload_n hG rfl rfl ?_
    refine q_iload_n hG rfl rfl ?_
    refine q_callV6 hG rfl rfl rfl (by assumption) (s_R_num hm0 0 (n := xn) (show xn < 10 ^ (0 + 1) from Nat.lt_of_lt_of_le (show xn < 10 by omega) (by decide)) (by omega) (wrR.clear (st I m 0 0) m) (by first | omega | (simp only [List.length_append, List.length_cons, List.length_nil]; omega) | (show (0 : Nat) + _ ≤ _; omega)) (fun J1 a1 h1 => ?_))
    have g1 : ofr (st (st I m 0 0) m 14 0) J1 m := h1
    have a1 : wrR J1 m (decL xn) := a1
    refine q_aload_n hG rfl rfl ?_
    refine q_bipush (v := 91) hG rfl rfl ?_
    refine q_callV6 hG rfl rfl rfl (by assumption) (s_R_writes hm0 a1 (by omega) (by first | omega | (simp only [List.length_append, List.length_cons, List.length_nil]; omega) | (show (0 : Nat) + _ ≤ _; omega)) (fun J2 a2 h2 => ?_))
    have g2 : ofr (st (st I m 0 0) m 14 0) J2 m := g1.trans h2
    have a2 : wrR J2 m (decL xn ++ [91]) := a2
    refine q_aload_n hG rfl rfl ?_
    refine q_aload_n hG rfl rfl ?_
    refine q_iload_n hG rfl rfl ?_
    refine q_iconst (v := 2) hG rfl rfl ?_
    refine q_callV6 hG rfl rfl rfl (by assumption) (s_R_dN (x := xn) (w := 2) hm0 (by omega) (by decide) ?_)
    rw [show dR J2 m xn 2 = R (5 + 4 * xn + 2) from (congrFun (g2.1 (m + 1) (by omega) (by omega)) _).trans (hRz _ (by omega))]
    rw [clo]
    refine q_callV6 hG rfl rfl rfl (by assumption) (s_R_num hm0 1 (n := (R (5 + 4 * xn + 2)).toNat) (show (R (5 + 4 * xn + 2)).toNat < 10 ^ (1 + 1) from Nat.lt_of_lt_of_le (show (R (5 + 4 * xn + 2)).toNat < 100 by omega) (by decide)) (by omega) a2 (by first | omega | (simp only [List.length_append, List.length_cons, List.length_nil]; omega) | (show (0 : Nat) + _ ≤ _; omega)) (fun J3 a3 h3 => ?_))
    have g3 : ofr (st (st I m 0 0) m 14 0) J3 m := g2.trans h3
    have a3 : wrR J3 m (doA R xn) := a3
    refine q_aload_n hG rfl rfl ?_
    refine q_iload_n hG rfl rfl ?_
    refine q_callV6 hG rfl rfl rfl (by assumption) (s_R_width hm0 ⟨by omega, by omega⟩ ?_)
    rw [show dR J3 m (xn : Int).toNat 3 - dR J3 m (xn : Int).toNat 2 + 1 = R (5 + 4 * xn + 3) - R (5 + 4 * xn + 2) + 1 from by unfold dR; rw [ex9, g3.1 (m + 1) (by omega) (by omega), hRz _ (by omega), hRz _ (by omega)]]
    refine q_iconst (v := 1) hG rfl rfl ?_
    refine q_icmp_le hG rfl ⟨by omega, by omega⟩ ⟨by omega, by omega⟩ (fun hc46 => ?_) (fun hc46 => ?_)
    · have aB : wrR J3 m (doB R xn) := by unfold doB; rw [if_pos (by omega)]; exact a3
      have gB := g3
      refine q_aload_n hG rfl rfl ?_
      refine q_bipush (v := 93) hG rfl rfl ?_
      refine q_callV6 hG rfl rfl rfl (by assumption) (s_R_writes hm0 aB (by omega) (by omega) (fun J7 a7 h7 => ?_))
      have g7 : ofr (st (st I m 0 0) m 14 0) J7 m := gB.trans h7
      have a7 : wrR J7 m (doC R xn) := a7
      have nC : (doC R xn).length ≤ 9 := by unfold doC; rw [List.length_append]; show (doB R xn).length + 1 ≤ 9; omega
      refine q_aload_n hG rfl rfl ?_
      refine q_iload_n hG rfl rfl ?_
      refine q_iconst (v := 2) hG rfl rfl ?_
      refine q_callV6 hG rfl rfl rfl (by assumption) (s_R_dN (x := xn) (w := 2) hm0 (by omega) (by decide) ?_)
      rw [show dR J7 m xn 2 = R (5 + 4 * xn + 2) from (congrFun (g7.1 (m + 1) (by omega) (by omega)) _).trans (hRz _ (by omega))]
      refine q_aload_n hG rfl rfl ?_
      refine q_iload_n hG rfl rfl ?_
      refine q_iconst (v := 0) hG rfl rfl ?_
      refine q_callV6 hG rfl rfl rfl (by assumption) (s_R_dN (x := xn) (w := 0) hm0 (by omega) (by decide) ?_)
      rw [show dR J7 m xn 0 = R (5 + 4 * xn) from (congrFun (g7.1 (m + 1) (by omega) (by omega)) _).trans (hRz _ (by omega))]
      refine q_icmp_ne hG rfl ⟨by omega, by omega⟩ ⟨by omega, by omega⟩ (fun hc89 => ?_) (fun hc89 => ?_)
      · refine q_aload_n hG rfl rfl ?_
        refine q_bipush (v := 42) hG rfl rfl ?_
        refine q_callV6 hG rfl rfl rfl (by assumption) (s_R_writes hm0 a7 (by omega) (by omega) (fun J8 a8 h8 => ?_))
        have g8 : ofr (st (st I m 0 0) m 14 0) J8 m := g7.trans h8
        have eT : doT R xn = doC R xn ++ [42] := by unfold doT; exact if_neg (by omega)
        have aE := a8
        have gE := g8
        refine q_aload_n hG rfl rfl ?_
        refine q_getI0v (v := ((doT R xn).length : Int)) hG rfl (by assumption) (by rw [eT]; exact aE.1) ?_
        refine q_iret0 hG rfl rfl ?_
        first
        | exact pE hd _ ((sth.refl I m).t _) (st_same _ _ _ _)
        | exact p1 hd _ (ofz.mk gE) (by rw [gE.2 0 (by decide), st_ne _ _ (by omega), st_same]) (by rw [eT]; exact aE)
      · refine q_aload_n hG rfl rfl ?_
        refine q_iload_n hG rfl rfl ?_
        refine q_iconst (v := 3) hG rfl rfl ?_
        refine q_callV6 hG rfl rfl rfl (by assumption) (s_R_dN (x := xn) (w := 3) hm0 (by omega) (by decide) ?_)
        rw [show dR J7 m xn 3 = R (5 + 4 * xn + 3) from (congrFun (g7.1 (m + 1) (by omega) (by omega)) _).trans (hRz _ (by omega))]
        refine q_aload_n hG rfl rfl ?_
        refine q_iload_n hG rfl rfl ?_
        refine q_iconst (v := 1) hG rfl rfl ?_
        refine q_callV6 hG rfl rfl rfl (by assumption) (s_R_dN (x := xn) (w := 1) hm0 (by omega) (by decide) ?_)
        rw [show dR J7 m xn 1 = R (5 + 4 * xn + 1) from (congrFun (g7.1 (m + 1) (by omega) (by omega)) _).trans (hRz _ (by omega))]
        refine q_icmp_eq hG rfl ⟨by omega, by omega⟩ ⟨by omega, by omega⟩ (fun hc104 => ?_) (fun hc104 => ?_)
        · have eT : doT R xn = doC R xn := by unfold doT; exact if_pos (by omega)
          have aE := a7
          have gE := g7
          refine q_aload_n hG rfl rfl ?_
          refine q_getI0v (v := ((doT R xn).length : Int)) hG rfl (by assumption) (by rw [eT]; exact aE.1) ?_
          refine q_iret0 hG rfl rfl ?_
          first
          | exact pE hd _ ((sth.refl I m).t _) (st_same _ _ _ _)
          | exact p1 hd _ (ofz.mk gE) (by rw [gE.2 0 (by decide), st_ne _ _ (by omega), st_same]) (by rw [eT]; exact aE)
        · refine q_aload_n hG rfl rfl ?_
          refine q_bipush (v := 42) hG rfl rfl ?_
          refine q_callV6 hG rfl rfl rfl (by assumption) (s_R_writes hm0 a7 (by omega) (by omega) (fun J8 a8 h8 => ?_))
          have g8 : ofr (st (st I m 0 0) m 14 0) J8 m := g7.trans h8
          have eT : doT R xn = doC R xn ++ [42] := by unfold doT; exact if_neg (by omega)
          have aE := a8
          have gE := g8
          refine q_aload_n hG rfl rfl ?_
          refine q_getI0v (v := ((doT R xn).length : Int)) hG rfl (by assumption) (by rw [eT]; exact aE.1) ?_
          refine q_iret0 hG rfl rfl ?_
          first
          | exact pE hd _ ((sth.refl I m).t _) (st_same _ _ _ _)
          | exact p1 hd _ (ofz.mk gE) (by rw [gE.2 0 (by decide), st_ne _ _ (by omega), st_same]) (by rw [eT]; exact aE)
    · refine q_aload_n hG rfl rfl ?_
      refine q_bipush (v := 46) hG rfl rfl ?_
      refine q_callV6 hG rfl rfl rfl (by assumption) (s_R_writes hm0 a3 (by omega) (by first | omega | (simp only [List.length_append, List.length_cons, List.length_nil]; omega) | (show (0 : Nat) + _ ≤ _; omega)) (fun J4 a4 h4 => ?_))
      have g4 : ofr (st (st I m 0 0) m 14 0) J4 m := g3.trans h4
      have a4 : wrR J4 m (doA R xn ++ [46]) := a4
      refine q_aload_n hG rfl rfl ?_
      refine q_bipush (v := 46) hG rfl rfl ?_
      refine q_callV6 hG rfl rfl rfl (by assumption) (s_R_writes hm0 a4 (by omega) (by first | omega | (simp only [List.length_append, List.length_cons, List.length_nil]; omega) | (show (0 : Nat) + _ ≤ _; omega)) (fun J5 a5 h5 => ?_))
      have g5 : ofr (st (st I m 0 0) m 14 0) J5 m := g4.trans h5
      have a5 : wrR J5 m (doA R xn ++ [46] ++ [46]) := a5
      refine q_aload_n hG rfl rfl ?_
      refine q_aload_n hG rfl rfl ?_
      refine q_iload_n hG rfl rfl ?_
      refine q_iconst (v := 3) hG rfl rfl ?_
      refine q_callV6 hG rfl rfl rfl (by assumption) (s_R_dN (x := xn) (w := 3) hm0 (by omega) (by decide) ?_)
      rw [show dR J5 m xn 3 = R (5 + 4 * xn + 3) from (congrFun (g5.1 (m + 1) (by omega) (by omega)) _).trans (hRz _ (by omega))]
      rw [chi]
      refine q_callV6 hG rfl rfl rfl (by assumption) (s_R_num hm0 1 (n := (R (5 + 4 * xn + 3)).toNat) (show (R (5 + 4 * xn + 3)).toNat < 10 ^ (1 + 1) from Nat.lt_of_lt_of_le (show (R (5 + 4 * xn + 3)).toNat < 100 by omega) (by decide)) (by omega) a5 (by first | omega | (simp only [List.length_append, List.length_cons, List.length_nil]; omega) | (show (0 : Nat) + _ ≤ _; omega)) (fun J6 a6 h6 => ?_))
      have g6 : ofr (st (st I m 0 0) m 14 0) J6 m := g5.trans h6
      have a6 : wrR J6 m (doA R xn ++ [46] ++ [46] ++ decL (R (5 + 4 * xn + 3)).toNat) := a6
      have aB : wrR J6 m (doB R xn) := by
        unfold doB
        rw [if_neg (by omega), show ([46, 46] : List Int) = [46] ++ [46] from rfl, ← List.append_assoc]
        exact a6
      have gB := g6
      refine q_aload_n hG rfl rfl ?_
      refine q_bipush (v := 93) hG rfl rfl ?_
      refine q_callV6 hG rfl rfl rfl (by assumption) (s_R_writes hm0 aB (by omega) (by omega) (fun J7 a7 h7 => ?_))
      have g7 : ofr (st (st I m 0 0) m 14 0) J7 m := gB.trans h7
      have a7 : wrR J7 m (doC R xn) := a7
      have nC : (doC R xn).length ≤ 9 := by unfold doC; rw [List.length_append]; show (doB R xn).length + 1 ≤ 9; omega
      refine q_aload_n hG rfl rfl ?_
      refine q_iload_n hG rfl rfl ?_
      refine q_iconst (v := 2) hG rfl rfl ?_
      refine q_callV6 hG rfl rfl rfl (by assumption) (s_R_dN (x := xn) (w := 2) hm0 (by omega) (by decide) ?_)
      rw [show dR J7 m xn 2 = R (5 + 4 * xn + 2) from (congrFun (g7.1 (m + 1) (by omega) (by omega)) _).trans (hRz _ (by omega))]
      refine q_aload_n hG rfl rfl ?_
      refine q_iload_n hG rfl rfl ?_
      refine q_iconst (v := 0) hG rfl rfl ?_
      refine q_callV6 hG rfl rfl rfl (by assumption) (s_R_dN (x := xn) (w := 0) hm0 (by omega) (by decide) ?_)
      rw [show dR J7 m xn 0 = R (5 + 4 * xn) from (congrFun (g7.1 (m + 1) (by omega) (by omega)) _).trans (hRz _ (by omega))]
      refine q_icmp_ne hG rfl ⟨by omega, by omega⟩ ⟨by omega, by omega⟩ (fun hc89 => ?_) (fun hc89 => ?_)
      · refine q_aload_n hG rfl rfl ?_
        refine q_bipush (v := 42) hG rfl rfl ?_
        refine q_callV6 hG rfl rfl rfl (by assumption) (s_R_writes hm0 a7 (by omega) (by omega) (fun J8 a8 h8 => ?_))
        have g8 : ofr (st (st I m 0 0) m 14 0) J8 m := g7.trans h8
        have eT : doT R xn = doC R xn ++ [42] := by unfold doT; exact if_neg (by omega)
        have aE := a8
        have gE := g8
        refine q_aload_n hG rfl rfl ?_
        refine q_getI0v (v := ((doT R xn).length : Int)) hG rfl (by assumption) (by rw [eT]; exact aE.1) ?_
        refine q_iret0 hG rfl rfl ?_
        first
        | exact pE hd _ ((sth.refl I m).t _) (st_same _ _ _ _)
        | exact p1 hd _ (ofz.mk gE) (by rw [gE.2 0 (by decide), st_ne _ _ (by omega), st_same]) (by rw [eT]; exact aE)
      · refine q_aload_n hG rfl rfl ?_
        refine q_iload_n hG rfl rfl ?_
        refine q_iconst (v := 3) hG rfl rfl ?_
        refine q_callV6 hG rfl rfl rfl (by assumption) (s_R_dN (x := xn) (w := 3) hm0 (by omega) (by decide) ?_)
        rw [show dR J7 m xn 3 = R (5 + 4 * xn + 3) from (congrFun (g7.1 (m + 1) (by omega) (by omega)) _).trans (hRz _ (by omega))]
        refine q_aload_n hG rfl rfl ?_
        refine q_iload_n hG rfl rfl ?_
        refine q_iconst (v := 1) hG rfl rfl ?_
        refine q_callV6 hG rfl rfl rfl (by assumption) (s_R_dN (x := xn) (w := 1) hm0 (by omega) (by decide) ?_)
        rw [show dR J7 m xn 1 = R (5 + 4 * xn + 1) from (congrFun (g7.1 (m + 1) (by omega) (by omega)) _).trans (hRz _ (by omega))]
        refine q_icmp_eq hG rfl ⟨by omega, by omega⟩ ⟨by omega, by omega⟩ (fun hc104 => ?_) (fun hc104 => ?_)
        · have eT : doT R xn = doC R xn := by unfold doT; exact if_pos (by omega)
          have aE := a7
          have gE := g7
          refine q_aload_n hG rfl rfl ?_
          refine q_getI0v (v := ((doT R xn).length : Int)) hG rfl (by assumption) (by rw [eT]; exact aE.1) ?_
          refine q_iret0 hG rfl rfl ?_
          first
          | exact pE hd _ ((sth.refl I m).t _) (st_same _ _ _ _)
          | exact p1 hd _ (ofz.mk gE) (by rw [gE.2 0 (by decide), st_ne _ _ (by omega), st_same]) (by rw [eT]; exact aE)
        · refine q_aload_n hG rfl rfl ?_
          refine q_bipush (v := 42) hG rfl rfl ?_
          refine q_callV6 hG rfl rfl rfl (by assumption) (s_R_writes hm0 a7 (by omega) (by omega) (fun J8 a8 h8 => ?_))
          have g8 : ofr (st (st I m 0 0) m 14 0) J8 m := g7.trans h8
          have eT : doT R xn = doC R xn ++ [42] := by unfold doT; exact if_neg (by omega)
          have aE := a8
          have gE := g8
          refine q_aload_n hG rfl rfl ?_
          refine q_getI0v (v := ((doT R xn).length : Int)) hG rfl (by assumption) (by rw [eT]; exact aE.1) ?_
          refine q_iret0 hG rfl rfl ?_
          first
          | exact pE hd _ ((sth.refl I m).t _) (st_same _ _ _ _)
          | exact p1 hd _ (ofz.mk gE) (by rw [gE.2 0 (by decide), st_ne _ _ (by omega), st_same]) (by rw [eT]; exact aE)
  · rw [hR0 0 (by omega)] at hd
    refine q_callV6 hG rfl rfl rfl (by assumption) (s_R_fine0 hm0 ?_)
    refine q_if_ne hG rfl ⟨by omega, by omega⟩ (fun q => absurd q (by decide)) (fun _ => ?_)
    refine q_iconst (v := 0) hG rfl rfl ?_
    refine q_iret0 hG rfl rfl ?_
    first
    | exact pE hd _ ((sth.refl I m).t _) (st_same _ _ _ _)
    | exact p1 hd _ (ofz.mk gE) (by rw [gE.2 0 (by decide), st_ne _ _ (by omega), st_same]) (by rw [eT]; exact aE)
theorem s_R_writeConstraint {d : Nat} {B : HP} {I : IM} {Post : Out → HP → Prop} {m : Nat} (hm : oM B m) {R : RW} {q : Int} (hR : RepM I m 0 R) (hW : WfR q R) (hq : q ≤ 2000000000) (hq9 : q ≤ 999999999) {x : Int} (hv : r32 x) (pE : noR R x → ∀ J : IM, sth I J m → J m 0 = 1 → Post (.inl (some (.int (i3 0)))) (wI B J)) (p1 : ∀ p : Nat, fdR R x p → ∀ J : IM, ofz I J m → J m 0 = 0 → wrR J m (ruT R p) → Post (.inl (some (.int (i3 ((ruT R p).length : Int))))) (wI B J)) : Sp (d + 12) k_X9_writeConstraint [.ref m, .int (i3 (x))] (wI B I) Post := by
  refine Sp_intro md_X9_writeConstraint rfl rfl (fun G hG => ?_)
  have hm0 := hm
  obtain ⟨n1, n2, n3, n4, n5, n6, n7, n8, n9, n10, n11⟩ := hm
  have hR0 : ∀ j, j < 79 → I (m + 1) j = R j := hR.at
  have hRs : ∀ z : Int, ∀ j, j < 79 → st I m 0 z (m + 1) j = R j := fun z j hj => by rw [st_row _ _ (by omega)]; exact hR0 j hj
  have hW0 := hW
  obtain ⟨w0, w1, w2, w3, w4, wd, wc⟩ := hW
  have hdb : ∀ k, k < 6 → (0 ≤ R (5 + 4 * k + 2) ∧ R (5 + 4 * k + 2) ≤ 40) ∧ (0 ≤ R (5 + 4 * k + 3) ∧ R (5 + 4 * k + 3) ≤ 40) ∧ R (5 + 4 * k + 2) ≤ R (5 + 4 * k + 3) := fun k hk => by have u := (wd k hk).1; omega
  have rlr : ∀ z : Int, ∀ k : Nat, (k : Int) < st I m 0 z (m + 1) 1 → r32 (cR (st I m 0 z) m k 0) := fun z k hk => by
    rw [hRs z 1 (by omega)] at hk
    rw [show cR (st I m 0 z) m k 0 = R (29 + 5 * k) from hRs z _ (by omega)]
    have g := (wc k hk).1
    exact ⟨by omega, by omega⟩
  have rl0 : ∀ k : Nat, (k : Int) < I (m + 1) 1 → r32 (cR I m k 0) := fun k hk => by
    rw [hR0 1 (by omega)] at hk
    rw [show cR I m k 0 = R (29 + 5 * k) from hR0 _ (by omega)]
    have g := (wc k hk).1
    exact ⟨by omega, by omega⟩
  have fe : ∀ (K : IM) (x : Int) (p : Nat), (∀ j, j < 79 → K (m + 1) j = R j) → fst (fun k => cR K m k 0 = x) (K (m + 1) 1).toNat p → fdR R x p := fun K x p hK hf => by
    rw [hK 1 (by omega)] at hf
    exact fst_c (fun k hk => by rw [show cR K m k 0 = R (29 + 5 * k) from hK _ (by omega)]) hf
  have ne : ∀ (K : IM) (x : Int), (∀ j, j < 79 → K (m + 1) j = R j) → (∀ k, k < (K (m + 1) 1).toNat → ¬ cR K m k 0 = x) → noR R x := fun K x hK hf k hk z => by
    rw [hK 1 (by omega)] at hf
    exact hf k hk (by rw [show cR K m k 0 = R (29 + 5 * k) from hK _ (by omega)]; exact z)
  have hRz : ∀ j, j < 79 → (st (st I m 0 0) m 14 0) (m + 1) j = R j := fun j hj => by rw [st_row _ _ (by omega), st_row _ _ (by omega)]; exact hR0 j hj
  show G 0 [some (.ref m), some (.int (i3 (x))), none] [] (wI B I)
  refine q_aload_n hG rfl rfl ?_
  refine q_iload_n hG rfl rfl ?_
  refine q_callV6 hG rfl rfl rfl (by assumption) (s_R_rule hm0 hv (by rw [hR0 1 (by omega)]; exact w1) rl0 (fun p hf => ?_) (fun hf => ?_))
  · have hf := fe I x p hR0 hf
    have hpl := hf.1
    obtain ⟨y1, y2, y3, y4, y5, y6, y7⟩ := wc p (by omega)
    refine q_istore_n hG rfl rfl ?_
    refine q_aload_n hG rfl rfl ?_
    refine q_iload_n hG rfl rfl ?_
    refine q_if_lt hG rfl ⟨by omega, by omega⟩ (fun hc8 => ?_) (fun hc8 => ?_)
    · refine q_iconst (v := 0) hG rfl rfl ?_
      refine q_callV6 hG rfl rfl rfl (by assumption) (s_R_fine0 hm0 ?_)
      refine q_if_ne hG rfl ⟨by omega, by omega⟩ (fun q => absurd q (by decide)) (fun _ => ?_)
      refine q_iconst (v := 0) hG rfl rfl ?_
      refine q_iret0 hG rfl rfl ?_
      first
      | exact pE hf _ ((sth.refl I m).t _) (st_same _ _ _ _)
      | exact p1 p hf _ (ofz.mk gE) (by rw [gE.2 0 (by decide), st_ne _ _ (by omega), st_same]) (by rw [eT]; exact aE)
      | (exfalso; omega)
    · refine q_iconst (v := 1) hG rfl rfl ?_
      refine q_goto hG rfl ?_
      refine q_callV6 hG rfl rfl rfl (by assumption) (s_R_fine1 hm0 ?_)
      refine q_if_ne hG rfl ⟨by omega, by omega⟩ (fun _ => ?_) (fun q => absurd (by decide) q)
      have cid : x = ((R (29 + 5 * p)).toNat : Int) := by have := hf.2.1; omega
      have e10 : (10 : Nat) ^ (8 + 1) = 1000000000 := by decide
      have n1 := decL_le 8 (R (29 + 5 * p)).toNat (by rw [e10]; omega)
      have n2 := decL_le 0 (R (29 + 5 * p + 2)).toNat (by omega)
      have n3 := decL_le 0 (R (29 + 5 * p + 3)).toNat (by omega)
      have n4 := decL_le 1 (R (29 + 5 * p + 4)).toNat (by omega)
      have c2 : R (29 + 5 * p + 2) = ((R (29 + 5 * p + 2)).toNat : Int) := by omega
      have c3 : R (29 + 5 * p + 3) = ((R (29 + 5 * p + 3)).toNat : Int) := by omega
      have c4 : R (29 + 5 * p + 4) = ((R (29 + 5 * p + 4)).toNat : Int) := by omega
      have nA : (ruA R p).length ≤ 13 := by unfold ruA; simp only [List.length_append, List.length_cons, List.length_nil]; omega
      refine q_aload_n hG rfl rfl ?_
      refine q_iconst (v := 0) hG rfl rfl ?_
      refine q_putI0 hG rfl (by assumption) ?_
      refine q_aload_n hG rfl rfl ?_
      refine q_iload_n hG rfl rfl ?_
      rw [cid]
      refine q_callV6 hG rfl rfl rfl (by assumption) (s_R_num hm0 8 (n := (R (29 + 5 * p)).toNat) (show (R (29 + 5 * p)).toNat < 10 ^ (8 + 1) from Nat.lt_of_lt_of_le (show (R (29 + 5 * p)).toNat < 1000000000 by omega) (by decide)) (by omega) (wrR.clear (st I m 0 0) m) (by first | omega | (simp only [List.length_append, List.length_cons, List.length_nil]; omega) | (show (0 : Nat) + _ ≤ _; omega)) (fun J1 a1 h1 => ?_))
      have g1 : ofr (st (st I m 0 0) m 14 0) J1 m := h1
      have a1 : wrR J1 m (decL (R (29 + 5 * p)).toNat) := a1
      refine q_aload_n hG rfl rfl ?_
      refine q_bipush (v := 58) hG rfl rfl ?_
      refine q_callV6 hG rfl rfl rfl (by assumption) (s_R_writes hm0 a1 (by omega) (by first | omega | (simp only [List.length_append, List.length_cons, List.length_nil]; omega) | (show (0 : Nat) + _ ≤ _; omega)) (fun J2 a2 h2 => ?_))
      have g2 : ofr (st (st I m 0 0) m 14 0) J2 m := g1.trans h2
      have a2 : wrR J2 m (decL (R (29 + 5 * p)).toNat ++ [58]) := a2
      refine q_aload_n hG rfl rfl ?_
      refine q_aload_n hG rfl rfl ?_
      refine q_iload_n hG rfl rfl ?_
      refine q_iconst (v := 2) hG rfl rfl ?_
      refine q_callV6 hG rfl rfl rfl (by assumption) (s_R_cN (x := p) (w := 2) hm0 (by omega) (by decide) ?_)
      rw [show cR J2 m p 2 = R (29 + 5 * p + 2) from (congrFun (g2.1 (m + 1) (by omega) (by omega)) _).trans (hRz _ (by omega))]
      rw [c2]
      refine q_callV6 hG rfl rfl rfl (by assumption) (s_R_num hm0 0 (n := (R (29 + 5 * p + 2)).toNat) (show (R (29 + 5 * p + 2)).toNat < 10 ^ (0 + 1) from Nat.lt_of_lt_of_le (show (R (29 + 5 * p + 2)).toNat < 10 by omega) (by decide)) (by omega) a2 (by first | omega | (simp only [List.length_append, List.length_cons, List.length_nil]; omega) | (show (0 : Nat) + _ ≤ _; omega)) (fun J3 a3 h3 => ?_))
      have g3 : ofr (st (st I m 0 0) m 14 0) J3 m := g2.trans h3
      have a3 : wrR J3 m (decL (R (29 + 5 * p)).toNat ++ [58] ++ decL (R (29 + 5 * p + 2)).toNat) := a3
      refine q_aload_n hG rfl rfl ?_
      refine q_aload_n hG rfl rfl ?_
      refine q_iload_n hG rfl rfl ?_
      refine q_iconst (v := 1) hG rfl rfl ?_
      refine q_callV6 hG rfl rfl rfl (by assumption) (s_R_cN (x := p) (w := 1) hm0 (by omega) (by decide) ?_)
      rw [show cR J3 m p 1 = R (29 + 5 * p + 1) from (congrFun (g3.1 (m + 1) (by omega) (by omega)) _).trans (hRz _ (by omega))]
      refine q_callV6 hG rfl rfl rfl (by assumption) (s_R_writes hm0 a3 (by omega) (by first | omega | (simp only [List.length_append, List.length_cons, List.length_nil]; omega) | (show (0 : Nat) + _ ≤ _; omega)) (fun J4 a4 h4 => ?_))
      have g4 : ofr (st (st I m 0 0) m 14 0) J4 m := g3.trans h4
      have a4 : wrR J4 m (decL (R (29 + 5 * p)).toNat ++ [58] ++ decL (R (29 + 5 * p + 2)).toNat ++ [R (29 + 5 * p + 1)]) := a4
      refine q_aload_n hG rfl rfl ?_
      refine q_aload_n hG rfl rfl ?_
      refine q_iload_n hG rfl rfl ?_
      refine q_iconst (v := 3) hG rfl rfl ?_
      refine q_callV6 hG rfl rfl rfl (by assumption) (s_R_cN (x := p) (w := 3) hm0 (by omega) (by decide) ?_)
      rw [show cR J4 m p 3 = R (29 + 5 * p + 3) from (congrFun (g4.1 (m + 1) (by omega) (by omega)) _).trans (hRz _ (by omega))]
      rw [c3]
      refine q_callV6 hG rfl rfl rfl (by assumption) (s_R_num hm0 0 (n := (R (29 + 5 * p + 3)).toNat) (show (R (29 + 5 * p + 3)).toNat < 10 ^ (0 + 1) from Nat.lt_of_lt_of_le (show (R (29 + 5 * p + 3)).toNat < 10 by omega) (by decide)) (by omega) a4 (by first | omega | (simp only [List.length_append, List.length_cons, List.length_nil]; omega) | (show (0 : Nat) + _ ≤ _; omega)) (fun J5 a5 h5 => ?_))
      have g5 : ofr (st (st I m 0 0) m 14 0) J5 m := g4.trans h5
      have a5 : wrR J5 m (ruA R p) := a5
      refine q_aload_n hG rfl rfl ?_
      refine q_iload_n hG rfl rfl ?_
      refine q_iconst (v := 4) hG rfl rfl ?_
      refine q_callV6 hG rfl rfl rfl (by assumption) (s_R_cN (x := p) (w := 4) hm0 (by omega) (by decide) ?_)
      rw [show cR J5 m p 4 = R (29 + 5 * p + 4) from (congrFun (g5.1 (m + 1) (by omega) (by omega)) _).trans (hRz _ (by omega))]
      refine q_if_le hG rfl ⟨by omega, by omega⟩ (fun hc76 => ?_) (fun hc76 => ?_)
      · have eT : ruT R p = ruA R p := by unfold ruT; exact if_pos (by omega)
        have aE := a5
        have gE := g5
        refine q_aload_n hG rfl rfl ?_
        refine q_getI0v (v := ((ruT R p).length : Int)) hG rfl (by assumption) (by rw [eT]; exact aE.1) ?_
        refine q_iret0 hG rfl rfl ?_
        first
        | exact pE hf _ ((sth.refl I m).t _) (st_same _ _ _ _)
        | exact p1 p hf _ (ofz.mk gE) (by rw [gE.2 0 (by decide), st_ne _ _ (by omega), st_same]) (by rw [eT]; exact aE)
        | (exfalso; omega)
      · refine q_aload_n hG rfl rfl ?_
        refine q_bipush (v := 43) hG rfl rfl ?_
        refine q_callV6 hG rfl rfl rfl (by assumption) (s_R_writes hm0 a5 (by omega) (by first | omega | (simp only [List.length_append, List.length_cons, List.length_nil]; omega) | (show (0 : Nat) + _ ≤ _; omega)) (fun J6 a6 h6 => ?_))
        have g6 : ofr (st (st I m 0 0) m 14 0) J6 m := g5.trans h6
        have a6 : wrR J6 m (ruA R p ++ [43]) := a6
        refine q_aload_n hG rfl rfl ?_
        refine q_aload_n hG rfl rfl ?_
        refine q_iload_n hG rfl rfl ?_
        refine q_iconst (v := 4) hG rfl rfl ?_
        refine q_callV6 hG rfl rfl rfl (by assumption) (s_R_cN (x := p) (w := 4) hm0 (by omega) (by decide) ?_)
        rw [show cR J6 m p 4 = R (29 + 5 * p + 4) from (congrFun (g6.1 (m + 1) (by omega) (by omega)) _).trans (hRz _ (by omega))]
        rw [c4]
        refine q_callV6 hG rfl rfl rfl (by assumption) (s_R_num hm0 1 (n := (R (29 + 5 * p + 4)).toNat) (show (R (29 + 5 * p + 4)).toNat < 10 ^ (1 + 1) from Nat.lt_of_lt_of_le (show (R (29 + 5 * p + 4)).toNat < 100 by omega) (by decide)) (by omega) a6 (by first | omega | (simp only [List.length_append, List.length_cons, List.length_nil]; omega) | (show (0 : Nat) + _ ≤ _; omega)) (fun J7 a7 h7 => ?_))
        have g7 : ofr (st (st I m 0 0) m 14 0) J7 m := g6.trans h7
        have a7 : wrR J7 m (ruA R p ++ [43] ++ decL (R (29 + 5 * p + 4)).toNat) := a7
        have eT : ruT R p = ruA R p ++ [43] ++ decL (R (29 + 5 * p + 4)).toNat := by unfold ruT; exact if_neg (by omega)
        have aE := a7
        have gE := g7
        refine q_aload_n hG rfl rfl ?_
        refine q_getI0v (v := ((ruT R p).length : Int)) hG rfl (by assumption) (by rw [eT]; exact aE.1) ?_
        refine q_iret0 hG rfl rfl ?_
        first
        | exact pE hf _ ((sth.refl I m).t _) (st_same _ _ _ _)
        | exact p1 p hf _ (ofz.mk gE) (by rw [gE.2 0 (by decide), st_ne _ _ (by omega), st_same]) (by rw [eT]; exact aE)
        | (exfalso; omega)
  · have hf := ne I x hR0 hf
    refine q_istore_n hG rfl rfl ?_
    refine q_aload_n hG rfl rfl ?_
    refine q_iload_n hG rfl rfl ?_
    refine q_if_lt hG rfl ⟨by omega, by omega⟩ (fun _ => ?_) (fun q => absurd (by decide) q)
    refine q_iconst (v := 0) hG rfl rfl ?_
    refine q_callV6 hG rfl rfl rfl (by assumption) (s_R_fine0 hm0 ?_)
    refine q_if_ne hG rfl ⟨by omega, by omega⟩ (fun q => absurd q (by decide)) (fun _ => ?_)
    refine q_iconst (v := 0) hG rfl rfl ?_
    refine q_iret0 hG rfl rfl ?_
    first
    | exact pE hf _ ((sth.refl I m).t _) (st_same _ _ _ _)
    | exact p1 p hf _ (ofz.mk gE) (by rw [gE.2 0 (by decide), st_ne _ _ (by omega), st_same]) (by rw [eT]; exact aE)
    | (exfalso; omega)
