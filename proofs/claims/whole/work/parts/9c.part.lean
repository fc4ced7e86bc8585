/-! the class: peace -/
def fpR (R : RW) (b : Nat → Int) : Prop := peS R (ptR R) b ∧ ∀ p, peS R (ptR R) p → ¬ ltL (R 0).toNat p b
theorem ffr.tr {I J : IM} (h : ffr I J) : trf I J := fun a ha => h a (by omega) (by omega) (by omega)
theorem s_X_hasPeace {d : Nat} {B : HP} {I : IM} {Post : Out → HP → Prop} (hX : LX B) {R : RW} (hR : RepC I 1 R) {q : Int} (hW : WfR q R) (hq : q ≤ 2000000000) (hz : ∀ k, k < 10 → I 157 k = 0) (p1 : ∀ (J : IM) (b : Nat → Int), fpR R b → trf I J → Post (.inl (some (.int (i3 1)))) (wI B J)) (p0 : ∀ J : IM, (∀ p, ¬ peS R (ptR R) p) → trf I J → Post (.inl (some (.int (i3 0)))) (wI B J)) : Sp (d + 17) k_X8_hasPeace [.ref 0] (wI B I) Post := by
  refine Sp_intro md_X8_hasPeace rfl rfl (fun G hG => ?_)
  have hX0 := hX
  obtain ⟨x0, x1, x2, x3, x4, x5, x6, x7, x8, x9, x10, x11, x12, x13, x14, x15, x16, x17, x18, x19, x20, x21, x22, x23, x24, x25, x26, x27, x28, x29, x30, x31, x32, x33, x34, x35, x36, x37, x38, x39, x40, x41, x42, x43, x44⟩ := hX
  obtain ⟨d1, d2, d3, d4, hF, hBd, hCo⟩ := x10
  obtain ⟨f1, f2, f3, f4, f5⟩ := hF
  obtain ⟨g1, g2, g3, g4, g5⟩ := hBd
  obtain ⟨c1, c2, c3, c4, c5, c6, c7, c8, c9, c10, c11⟩ := hCo
  obtain ⟨t1, t2, t3, t4, t5⟩ := x12
  have hR0 := hR
  obtain ⟨r0, r1, r2, r3, r4, rd, rc, ry⟩ := hR
  have r1 : I 8 0 = R 1 := r1
  have r2 : I 8 1 = R 2 := r2
  have rd : ∀ k, k < 6 → I 3 k = R (5 + 4 * k) ∧ I 4 k = R (5 + 4 * k + 1) ∧ I 6 k = R (5 + 4 * k + 2) ∧ I 7 k = R (5 + 4 * k + 3) := rd
  have rc : ∀ k : Nat, (k : Int) < R 1 → I 9 k = R (29 + 5 * k) ∧ I 10 k = R (29 + 5 * k + 1) ∧ I 11 k = R (29 + 5 * k + 2) ∧ I 12 k = R (29 + 5 * k + 3) ∧ I 13 k = R (29 + 5 * k + 4) := rc
  have ry : ∀ k, k < 10 → 0 ≤ I 10 k ∧ I 10 k < 65536 := ry
  have hW0 := hW
  obtain ⟨w0, w1, w2, w3, w4, wd, wc⟩ := hW
  show G 0 [some (.ref 0)] [] (wI B I)
  refine q_aload_n hG rfl rfl ?_
  refine q_getR hG rfl (by assumption) (by assumption) ?_
  refine q_aload_n hG rfl rfl ?_
  refine q_getR hG rfl (by assumption) (by assumption) ?_
  refine q_getR hG rfl (by assumption) (by assumption) ?_
  refine q_aload_n hG rfl rfl ?_
  refine q_getR hG rfl (by assumption) (by assumption) ?_
  refine q_getR hG rfl (by assumption) (by assumption) ?_
  refine q_aload_n hG rfl rfl ?_
  refine q_getR hG rfl (by assumption) (by assumption) ?_
  refine q_getI0v (v := R 0) hG rfl (by assumption) (r0) ?_
  refine q_callV6 hG rfl rfl rfl (by assumption) (s_S_find hX0 hR0 hW0 hq (Or.inl rfl) (ptR_ok hW0) (fun k hk => ⟨(rd k hk).2.2.1, (rd k hk).2.2.2⟩) hz (fun J h1 h2 j => ?_) (fun J h0 j => ?_))
  · have hfp : fpR R (J 154) := ⟨h1, h2⟩
    have htr := j.tr
    refine q_iret5 hG rfl rfl (by decide) ?_
    exact p1 J _ hfp htr
  · have htr := j.tr
    refine q_iret5 hG rfl rfl (by decide) ?_
    exact p0 J h0 htr
theorem s_X_peaceHeight {d : Nat} {B : HP} {I : IM} {Post : Out → HP → Prop} (hX : LX B) {R : RW} (hR : RepC I 1 R) {q : Int} (hW : WfR q R) (hq : q ≤ 2000000000) {x : Int} (hv : r32 x) (hz : ∀ k, k < 10 → I 157 k = 0) (pE : ¬ (0 ≤ x ∧ x < R 0) → Post (.inr 2) (wI (junk B 6) I)) (p1 : 0 ≤ x ∧ x < R 0 → ∀ (J : IM) (b : Nat → Int), fpR R b → trf I J → Post (.inl (some (.int (i3 (b x.toNat))))) (wI B J)) (p0 : 0 ≤ x ∧ x < R 0 → ∀ J : IM, (∀ p, ¬ peS R (ptR R) p) → trf I J → Post (.inr 3) (wI (junk B 6) J)) : Sp (d + 17) k_X8_peaceHeight [.ref 0, .int (i3 (x))] (wI B I) Post := by
  refine Sp_intro md_X8_peaceHeight rfl rfl (fun G hG => ?_)
  have hX0 := hX
  obtain ⟨x0, x1, x2, x3, x4, x5, x6, x7, x8, x9, x10, x11, x12, x13, x14, x15, x16, x17, x18, x19, x20, x21, x22, x23, x24, x25, x26, x27, x28, x29, x30, x31, x32, x33, x34, x35, x36, x37, x38, x39, x40, x41, x42, x43, x44⟩ := hX
  obtain ⟨d1, d2, d3, d4, hF, hBd, hCo⟩ := x10
  obtain ⟨f1, f2, f3, f4, f5⟩ := hF
  obtain ⟨g1, g2, g3, g4, g5⟩ := hBd
  obtain ⟨c1, c2, c3, c4, c5, c6, c7, c8, c9, c10, c11⟩ := hCo
  obtain ⟨t1, t2, t3, t4, t5⟩ := x12
  have hR0 := hR
  obtain ⟨r0, r1, r2, r3, r4, rd, rc, ry⟩ := hR
  have r1 : I 8 0 = R 1 := r1
  have r2 : I 8 1 = R 2 := r2
  have rd : ∀ k, k < 6 → I 3 k = R (5 + 4 * k) ∧ I 4 k = R (5 + 4 * k + 1) ∧ I 6 k = R (5 + 4 * k + 2) ∧ I 7 k = R (5 + 4 * k + 3) := rd
  have rc : ∀ k : Nat, (k : Int) < R 1 → I 9 k = R (29 + 5 * k) ∧ I 10 k = R (29 + 5 * k + 1) ∧ I 11 k = R (29 + 5 * k + 2) ∧ I 12 k = R (29 + 5 * k + 3) ∧ I 13 k = R (29 + 5 * k + 4) := rc
  have ry : ∀ k, k < 10 → 0 ≤ I 10 k ∧ I 10 k < 65536 := ry
  have hW0 := hW
  obtain ⟨w0, w1, w2, w3, w4, wd, wc⟩ := hW
  show G 0 [some (.ref 0), some (.int (i3 (x)))] [] (wI B I)
  refine q_aload_n hG rfl rfl ?_
  refine q_iload_n hG rfl rfl ?_
  refine q_callV6 hG rfl rfl rfl (by assumption) (s_X_ckDoor hX0 hR0 hW0 hq hv (fun hx1 hx2 => ?_) (fun hx => ?_))
  · refine q_aload_n hG rfl rfl ?_
    refine q_getR hG rfl (by assumption) (by assumption) ?_
    refine q_aload_n hG rfl rfl ?_
    refine q_getR hG rfl (by assumption) (by assumption) ?_
    refine q_getR hG rfl (by assumption) (by assumption) ?_
    refine q_aload_n hG rfl rfl ?_
    refine q_getR hG rfl (by assumption) (by assumption) ?_
    refine q_getR hG rfl (by assumption) (by assumption) ?_
    refine q_aload_n hG rfl rfl ?_
    refine q_getR hG rfl (by assumption) (by assumption) ?_
    refine q_getI0v (v := R 0) hG rfl (by assumption) (r0) ?_
    refine q_callV6 hG rfl rfl rfl (by assumption) (s_S_find hX0 hR0 hW0 hq (Or.inl rfl) (ptR_ok hW0) (fun k hk => ⟨(rd k hk).2.2.1, (rd k hk).2.2.2⟩) hz (fun J h1 h2 j => ?_) (fun J h0 j => ?_))
    · have hfp : fpR R (J 154) := ⟨h1, h2⟩
      have htr := j.tr
      refine q_if_ne hG rfl ⟨by omega, by omega⟩ (fun _ => ?_) (fun q => absurd (by decide) q)
      refine q_aload_n hG rfl rfl ?_
      refine q_getR hG rfl (by assumption) (by assumption) ?_
      refine q_getR hG rfl (by assumption) (by assumption) ?_
      refine q_iload_n hG rfl rfl ?_
      refine q_iald hG rfl (by assumption) ⟨by omega, by omega, by omega⟩ ?_
      refine q_iret0 hG rfl rfl ?_
      exact p1 ⟨hx1, hx2⟩ J _ hfp htr
    · have htr := j.tr
      refine q_if_ne hG rfl ⟨by omega, by omega⟩ (fun q => absurd q (by decide)) (fun _ => ?_)
      refine q_throw hG rfl ?_
      exact p0 ⟨hx1, hx2⟩ J h0 htr
  · exact pE hx
theorem s_X_peaceSum {d : Nat} {B : HP} {I : IM} {Post : Out → HP → Prop} (hX : LX B) {R : RW} (hR : RepC I 1 R) {q : Int} (hW : WfR q R) (hq : q ≤ 2000000000) (hz : ∀ k, k < 10 → I 157 k = 0) (p1 : ∀ (J : IM) (b : Nat → Int), fpR R b → trf I J → Post (.inl (some (.int (i3 (sm b (R 0).toNat))))) (wI B J)) (p0 : ∀ J : IM, (∀ p, ¬ peS R (ptR R) p) → trf I J → Post (.inr 3) (wI (junk B 6) J)) : Sp (d + 17) k_X8_peaceSum [.ref 0] (wI B I) Post := by
  refine Sp_intro md_X8_peaceSum rfl rfl (fun G hG => ?_)
  have hX0 := hX
  obtain ⟨x0, x1, x2, x3, x4, x5, x6, x7, x8, x9, x10, x11, x12, x13, x14, x15, x16, x17, x18, x19, x20, x21, x22, x23, x24, x25, x26, x27, x28, x29, x30, x31, x32, x33, x34, x35, x36, x37, x38, x39, x40, x41, x42, x43, x44⟩ := hX
  obtain ⟨d1, d2, d3, d4, hF, hBd, hCo⟩ := x10
  obtain ⟨f1, f2, f3, f4, f5⟩ := hF
  obtain ⟨g1, g2, g3, g4, g5⟩ := hBd
  obtain ⟨c1, c2, c3, c4, c5, c6, c7, c8, c9, c10, c11⟩ := hCo
  obtain ⟨t1, t2, t3, t4, t5⟩ := x12
  have hR0 := hR
  obtain ⟨r0, r1, r2, r3, r4, rd, rc, ry⟩ := hR
  have r1 : I 8 0 = R 1 := r1
  have r2 : I 8 1 = R 2 := r2
  have rd : ∀ k, k < 6 → I 3 k = R (5 + 4 * k) ∧ I 4 k = R (5 + 4 * k + 1) ∧ I 6 k = R (5 + 4 * k + 2) ∧ I 7 k = R (5 + 4 * k + 3) := rd
  have rc : ∀ k : Nat, (k : Int) < R 1 → I 9 k = R (29 + 5 * k) ∧ I 10 k = R (29 + 5 * k + 1) ∧ I 11 k = R (29 + 5 * k + 2) ∧ I 12 k = R (29 + 5 * k + 3) ∧ I 13 k = R (29 + 5 * k + 4) := rc
  have ry : ∀ k, k < 10 → 0 ≤ I 10 k ∧ I 10 k < 65536 := ry
  have hW0 := hW
  obtain ⟨w0, w1, w2, w3, w4, wd, wc⟩ := hW
  have lp : ∀ (mz : Nat) (k : Nat) (J : IM), (R 0).toNat - k = mz → k ≤ (R 0).toNat → fpR R (J 154) → trf I J → G 45 [some (.ref 0), some (.int (i3 (sm (J 154) k))), some (.int (i3 (k : Int)))] [] (wI B J) := by
    intro mz
    induction mz using Nat.strongRecOn with
    | ind mz ih =>
      intro k J hme hk hfp htr
      refine q_iload_n hG rfl rfl ?_
      refine q_aload_n hG rfl rfl ?_
      refine q_getR hG rfl (by assumption) (by assumption) ?_
      refine q_getI0v (v := R 0) hG rfl (by assumption) (by rw [htr 1 (by omega)]; exact r0) ?_
      refine q_icmp_ge hG rfl ⟨by omega, by omega⟩ ⟨by omega, by omega⟩ (fun hc53 => ?_) (fun hc53 => ?_)
      · refine q_iload_n hG rfl rfl ?_
        refine q_iret0 hG rfl rfl ?_
        refine Eq.mp ?_ (p1 J _ hfp htr)
        rw [show (R 0).toNat = k by omega]
      · refine q_iload_n hG rfl rfl ?_
        refine q_aload_n hG rfl rfl ?_
        refine q_getR hG rfl (by assumption) (by assumption) ?_
        refine q_getR hG rfl (by assumption) (by assumption) ?_
        refine q_iload_n hG rfl rfl ?_
        refine q_iald hG rfl (by assumption) ⟨by omega, by omega, by omega⟩ ?_
        refine q_iadd hG rfl ?_
        refine q_istore_n hG rfl rfl ?_
        refine q_iinc (c := 1) hG rfl rfl rfl rfl ?_
        refine q_goto hG rfl ?_
        exact ih _ (by omega) (k + 1) J rfl (by omega) hfp htr
  show G 0 [some (.ref 0), none, none] [] (wI B I)
  refine q_aload_n hG rfl rfl ?_
  refine q_getR hG rfl (by assumption) (by assumption) ?_
  refine q_aload_n hG rfl rfl ?_
  refine q_getR hG rfl (by assumption) (by assumption) ?_
  refine q_getR hG rfl (by assumption) (by assumption) ?_
  refine q_aload_n hG rfl rfl ?_
  refine q_getR hG rfl (by assumption) (by assumption) ?_
  refine q_getR hG rfl (by assumption) (by assumption) ?_
  refine q_aload_n hG rfl rfl ?_
  refine q_getR hG rfl (by assumption) (by assumption) ?_
  refine q_getI0v (v := R 0) hG rfl (by assumption) (r0) ?_
  refine q_callV6 hG rfl rfl rfl (by assumption) (s_S_find hX0 hR0 hW0 hq (Or.inl rfl) (ptR_ok hW0) (fun k hk => ⟨(rd k hk).2.2.1, (rd k hk).2.2.2⟩) hz (fun J h1 h2 j => ?_) (fun J h0 j => ?_))
  · have hfp : fpR R (J 154) := ⟨h1, h2⟩
    have htr := j.tr
    refine q_if_ne hG rfl ⟨by omega, by omega⟩ (fun _ => ?_) (fun q => absurd (by decide) q)
    refine q_iconst (v := 0) hG rfl rfl ?_
    refine q_istore_n hG rfl rfl ?_
    refine q_iconst (v := 0) hG rfl rfl ?_
    refine q_istore_n hG rfl rfl ?_
    exact lp _ 0 J rfl (by omega) hfp htr
  · have htr := j.tr
    refine q_if_ne hG rfl ⟨by omega, by omega⟩ (fun q => absurd q (by decide)) (fun _ => ?_)
    refine q_throw hG rfl ?_
    exact p0 J h0 htr
