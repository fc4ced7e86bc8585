/-! the class: peace -/
def fpR (R : RW) (b : Nat → Int) : Prop := peS R (ptR R) b ∧ ∀ p, peS R (ptR R) p → ¬ ltL (R 0).toNat p b
theorem ffr.tr {I J : IM} (h : ffr I J) : trf I J := fun a ha => h a (by omega) (by omega) (by omega)
theorem s_X_hasPeace {d : Nat} {B : HP} {I : IM} {Post : Out → HP → Prop} (hX : LX B) {R : RW} (hR : RepC I 1 R) {q : Int} (hW : WfR q R) (hq : q ≤ 2000000000) (hz : ∀ k, k < 10 → I 157 k = 0) (p1 : ∀ (J : IM) (b : Nat → Int), fpR R b → trf I J → Post (.inl (some (.int (i3 1)))) (wI B J)) (p0 : ∀ J : IM, (∀ p, ¬ peS R (ptR R) p) → trf I J → Post (.inl (some (.int (i3 0)))) (wI B J)) : Sp (d + 17) k_X8_hasPeace [.ref 0] (wI B I) Post := by
  refine Sp_intro md_X8_hasPeace rfl rfl (fun G hG => ?_)
  have hX0 := hX
  obtain ⟨x0, x1, x2, x3, x4, x5, x6, x7, x8, x9, x10, x11, x12, x13, x14, x15, x16, x17, x18, x19, x20, x21, x22, x23, x24, x25, x26, x27, x28, x29, x30, x31, x32, x33, x34, x35, x36, x37, x38, x39, x40, x41, x42, x43, x44⟩ := hX
  obtain ⟨d1, d2, d3, d4, hF, hBd, hCo⟩ := x10
  obtain ⟨f1, f2, f3, f4, f5⟩ := hF
  obtain ⟨g1, g2, g3, g4, g5⟩ := hBd
  obtain ⟨c1, c2, c3, c4, c5, c6, c7, c8, c9, c10, c11⟩ := hCo
  obtain ⟨t1, t2, t3, t4, t5⟩ := x12
  have hR0 := hR
  obtain ⟨r0, r1, r2, r3, r4, rd, rc, ry⟩ := hR
  have r1 : I 8 0 = R 1 := r1
  have r2 : I 8 1 = R 2 := r2
  have rd : ∀ k, k < 6 → I 3 k = R (5 + 4 * k) ∧ I 4 k = R (5 + 4 * k + 1) ∧ I 6 k = R (5 + 4 * k + 2) ∧ I 7 k = R (5 + 4 * k + 3) := rd
  have rc : ∀ k : Nat, (k : Int) < R 1 → I 9 k = R (29 + 5 * k) ∧ I 10 k = R (29 + 5 * k + 1) ∧ I 11 k = R (29 + 5 * k + 2) ∧ I 12 k = R (29 + 5 * k + 3) ∧ I 13 k = R (29 + 5 * k + 4) := rc
  have ry : ∀ k, k < 10 → 0 ≤ I 10 k ∧ I 10 k < 65536 := ry
  have hW0 := hW
  obtain ⟨w0, w1, w2, w3, w4, wd, wc⟩ := hW
  show G 0 [some (.ref 0)] [] (wI B I)
  refine q_aload_n hG rfl rfl ?_
  refine q_getR hG rfl (by assumption) (by assumption) ?_
  refine q_aload_n hG rfl rfl ?_
  refine q_getR hG rfl (by assumption) (by assumption) ?_
  refine q_getR hG rfl (by assumption) (by assumption) ?_
  refine q_aload_n hG rfl rfl ?_
  refine q_getR hG rfl (by assumption) (by assumption) ?_
  refine q_getR hG rfl (by assumption) (by assumption) ?_
  refine q_aload_n hG rfl rfl ?_
  refine q_getR hG rfl (by assumption) (by assumption) ?_
  refine q_getI0v (v := R 0) hG rfl (by assumption) (r0) ?_
  refine q_callV6 hG rfl rfl rfl (by assumption) (s_S_find hX0 hR0 hW0 hq (Or.inl rfl) (ptR_ok hW0) (fun k hk => ⟨(rd k hk).2.2.1, (rd k hk).2.2.2⟩) hz (fun J h1 h2 j => ?_) (fun J h0 j => ?_))
  · have hfp : fpR R (J 154) := ⟨h1, h2⟩
    have htr := j.tr
    refine q_iret5 hG rfl rfl (by decide) ?_
    exact p1 J _ hfp htr
  · have htr := j.tr
    refine q_iret5 hG rfl rfl (by decide) ?_
    exact p0 J h0 htr
theorem s_X_peaceHeight {d : Nat} {B : HP} {I : IM} {Post : Out → HP → Prop} (hX : LX B) {R : RW} (hR : RepC I 1 R) {q : Int} (hW : WfR q R) (hq : q ≤ 2000000000) {x : Int} (hv : r32 x) (hz : ∀ k, k < 10 → I 157 k = 0) (pE : ¬ (0 ≤ x ∧ x < R 0) → Post (.inr 2) (wI (junk B 6) I)) (p1 : 0 ≤ x ∧ x < R 0 → ∀ (J : IM) (b : Nat → Int), fpR R b → trf I J → Post (.inl (some (.int (i3 (b x.toNat))))) (wI B J)) (p0 : 0 ≤ x ∧ x < R 0 → ∀ J : IM, (∀ p, ¬ peS R (ptR R) p) → trf I J → Post (.inr 3) (wI (junk B 6) J)) : Sp (d + 17) k_X8_peaceHeight [.ref 0, .int (i3 (x))] (wI B I) Post := by
  refine Sp_intro md_X8_peaceHeight rfl rfl (fun G hG => ?_)
  have hX0 := hX
  obtain ⟨x0, x1, x2, x3, x4, x5, x6, x7, x8, x9, x10, x11, x12, x13, x14, x15, x16, x17, x18, x19, x20, x21, x22, x23, x24, x25, x26, x27, x28, x29, x30, x31, x32, x33, x34, x35, x36, x37, x38, x39, x40, x41, x42, x43, x44⟩ := hX
  obtain ⟨d1, d2, d3, d4, hF, hBd, hCo⟩ := x10
  obtain ⟨f1, f2, f3, f4, f5⟩ := hF
  obtain ⟨g1, g2, g3, g4, g5⟩ := hBd
  obtain ⟨c1, c2, c3, c4, c5, c6, c7, c8, c9, c10, c11⟩ := hCo
  obtain ⟨t1, t2, t3, t4, t5⟩ := x12
  have hR0 := hR
  obtain ⟨r0, r1, r2, r3, r4, rd, rc, ry⟩ := hR
  have r1 : I 8 0 = R 1 := r1
  have r2 : I 8 1 = R 2 := r2
  have rd : ∀ k, k < 6 → I 3 k = R (5 + 4 * k) ∧ I 4 k = R (5 + 4 * k + 1) ∧ I 6 k = R (5 + 4 * k + 2) ∧ I 7 k = R (5 + 4 * k + 3) := rd
  have rc : ∀ k : Nat, (k : Int) < R 1 → I 9 k = R (29 + 5 * k) ∧ I 10 k = R (29 + 5 * k + 1) ∧ I 11 k = R (29 + 5 * k + 2) ∧ I 12 k = R (29 + 5 * k + 3) ∧ I 13 k = R (29 + 5 * k + 4) := rc
  have ry : ∀ k, k < 10 → 0 ≤ I 10 k ∧ I 10 k < 65536 := ry
  have hW0 := hW
  obtain ⟨w0, w1, w2, w3, w4, wd, wc⟩ := hW
  show G 0 [some (.ref 0), some (.int (i3 (x)))] [] (wI B I)
  refine q_aload_n hG rfl rfl ?_
  refine q_iload_n hG rfl rfl ?_
  refine q_callV6 hG rfl rfl rfl (by assumption) (s_X_ckDoor hX0 hR0 hW0 hq hv (fun hx1 hx2 => ?_) (fun hx => ?_))
  · refine q_aload_n hG rfl rfl ?_
    refine q_getR hG rfl (by assumption) (by assumption) ?_
    refine q_aload_n hG rfl rfl ?_
    refine q_getR hG rfl (by assumption) (by assumption) ?_
    refine q_getR hG rfl (by assumption) (by assumption) ?_
    refine q_aload_n hG rfl rfl ?_
    refine q_getR hG rfl (by assumption) (by assumption) ?_
    refine q_getR hG rfl (by assumption) (by assumption) ?_
    refine q_aload_n hG rfl rfl ?_
    refine q_getR hG rfl (by assumption) (by assumption) ?_
    refine q_getI0v (v := R 0) hG rfl (by assumption) (r0) ?_
    refine q_callV6 hG rfl rfl rfl (by assumption) (s_S_find hX0 hR0 hW0 hq (Or.inl rfl) (ptR_ok hW0) (fun k hk => ⟨(rd k hk).2.2.1, (rd k hk).2.2.2⟩) hz (fun J h1 h2 j => ?_) (fun J h0 j => ?_))
    · have hfp : fpR R (J 154) := ⟨h1, h2⟩
      have htr := j.tr
      refine q_if_ne hG rfl ⟨by omega, by omega⟩ (fun _ => ?_) (fun q => absurd (by decide) q)
      refine q_aload_n hG rfl rfl ?_
      refine q_getR hG rfl (by assumption) (by assumption) ?_
      refine q_getR hG rfl (by assumption) (by assumption) ?_
      refine q_iload_n hG rfl rfl ?_
      refine q_iald hG rfl (by assumption) ⟨by omega, by omega, by omega⟩ ?_
      refine q_iret0 hG rfl rfl ?_
      exact p1 ⟨hx1, hx2⟩ J _ hfp htr
    · have htr := j.tr
      refine q_if_ne hG rfl ⟨by omega, by omega⟩ (fun q => absurd q (by decide)) (fun _ => ?_)
      refine q_throw hG rfl ?_
      exact p0 ⟨hx1, hx2⟩ J h0 htr
  · exact pE hx
theorem s_X_peaceSum {d : Nat} {B : HP} {I : IM} {Post : Out → HP → Prop} (hX : LX B) {R : RW} (hR : RepC I 1 R) {q : Int} (hW : WfR q R) (hq : q ≤ 2000000000) (hz : ∀ k, k < 10 → I 157 k = 0) (p1 : ∀ (J : IM) (b : Nat → Int), fpR R b → trf I J → Post (.inl (some (.int (i3 (sm b (R 0).toNat))))) (wI B J)) (p0 : ∀ J : IM, (∀ p, ¬ peS R (ptR R) p) → trf I J → Post (.inr 3) (wI (junk B 6) J)) : Sp (d + 17) k_X8_peaceSum [.ref 0] (wI B I) Post := by
  refine Sp_intro md_X8_peaceSum rfl rfl (fun G hG => ?_)
  have hX0 := hX
  obtain ⟨x0, x1, x2, x3, x4, x5, x6, x7, x8, x9, x10, x11, x12, x13, x14, x15, x16, x17, x18, x19, x20, x21, x22, x23, x24, x25, x26, x27, x28, x29, x30, x31, x32, x33, x34, x35, x36, x37, x38, x39, x40, x41, x42, x43, x44⟩ := hX
  obtain ⟨d1, d2, d3, d4, hF, hBd, hCo⟩ := x10
  obtain ⟨f1, f2, f3, f4, f5⟩ := hF
  obtain ⟨g1, g2, g3, g4, g5⟩ := hBd
  obtain ⟨c1, c2, c3, c4, c5, c6, c7, c8, c9, c10, c11⟩ := hCo
  obtain ⟨t1, t2, t3, t4, t5⟩ := x12
  have hR0 := hR
  obtain ⟨r0, r1, r2, r3, r4, rd, rc, ry⟩ := hR
  have r1 : I 8 0 = R 1 := r1
  have r2 : I 8 1 = R 2 := r2
  have rd : ∀ k, k < 6 → I 3 k = R (5 + 4 * k) ∧ I 4 k = R (5 + 4 * k + 1) ∧ I 6 k = R (5 + 4 * k + 2) ∧ I 7 k = R (5 + 4 * k + 3) := rd
  have rc : ∀ k : Nat, (k : Int) < R 1 → I 9 k = R (29 + 5 * k) ∧ I 10 k = R (29 + 5 * k + 1) ∧ I 11 k = R (29 + 5 * k + 2) ∧ I 12 k = R (29 + 5 * k + 3) ∧ I 13 k = R (29 + 5 * k + 4) := rc
  have ry : ∀ k, k < 10 → 0 ≤ I 10 k ∧ I 10 k < 65536 := ry
  have hW0 := hW
  obtain ⟨w0, w1, w2, w3, w4, wd, wc⟩ := hW
  have lp : ∀ (mz : Nat) (k : Nat) (J : IM), (R 0).toNat - k = mz → k ≤ (R 0).toNat → fpR R (J 154) → trf I J → G 45 [some (.ref 0), some (.int (i3 (sm (J 154) k))), some (.int (i3 (k : Int)))] [] (wI B J) := by
    intro mz
    induction mz using Nat.strongRecOn with
    | ind mz ih =>
      intro k J hme hk hfp htr
      refine q_iload_n hG rfl rfl ?_
      refine q_aload_n hG rfl rfl ?_
      refine q_getR hG rfl (by assumption) (by assumption) ?_
      refine q_getI0v (v := R 0) hG rfl (by assumption) (by rw [htr 1 (by omega)]; exact r0) ?_
      refine q_icmp_ge hG rfl ⟨by omega, by omega⟩ ⟨by omega, by omega⟩ (fun hc53 => ?_) (fun hc53 => ?_)
      · refine q_iload_n hG rfl rfl ?_
        refine q_iret0 hG rfl rfl ?_
        refine Eq.mp ?_ (p1 J _ hfp htr)
        rw [show (R 0).toNat = k by omega]
      · refine q_iload_n hG rfl rfl ?_
        refine q_aload_n hG rfl rfl ?_
        refine q_getR hG rfl (by assumption) (by assumption) ?_
        refine q_getR hG rfl (by assumption) (by assumption) ?_
        refine q_iload_n hG rfl rfl ?_
        refine q_iald hG rfl (by assumption) ⟨by omega, by omega, by omega⟩ ?_
        refine q_iadd hG rfl ?_
        refine q_istore_n hG rfl rfl ?_
        refine q_iinc (c := 1) hG rfl rfl rfl rfl ?_
        refine q_goto hG rfl ?_
        exact ih _ (by omega) (k + 1) J rfl (by omega) hfp htr
  show G 0 [some (.ref 0), none, none] [] (wI B I)
  refine q_aload_n hG rfl rfl ?_
  refine q_getR hG rfl (by assumption) (by assumption) ?_
  refine q_aload_n hG rfl rfl ?_
  refine q_getR hG rfl (by assumption) (by assumption) ?_
  refine q_getR hG rfl (by assumption) (by assumption) ?_
  refine q_aload_n hG rfl rfl ?_
  refine q_getR hG rfl (by assumption) (by assumption) ?_
  refine q_getR hG rfl (by assumption) (by assumption) ?_
  refine q_aload_n hG rfl rfl ?_
  refine q_getR hG rfl (by assumption) (by assumption) ?_
  refine q_getI0v (v := R 0) hG rfl (by assumption) (r0) ?_
  refine q_callV6 hG rfl rfl rfl (by assumption) (s_S_find hX0 hR0 hW0 hq (Or.inl rfl) (ptR_ok hW0) (fun k hk => ⟨(rd k hk).2.2.1, (rd k hk).2.2.2⟩) hz (fun J h1 h2 j => ?_) (fun J h0 j => ?_))
  · have hfp : fpR R (J 154) := ⟨h1, h2⟩
    have htr := j.tr
    refine q_if_ne hG rfl ⟨by omega, by omega⟩ (fun _ => ?_) (fun q => absurd (by decide) q)
    refine q_iconst (v := 0) hG rfl rfl ?_
    refine q_istore_n hG rfl rfl ?_
    refine q_iconst (v := 0) hG rfl rfl ?_
    refine q_istore_n hG rfl rfl ?_
    exact lp _ 0 J rfl (by omega) hfp htr
  · have htr := j.tr
    refine q_if_ne hG rfl ⟨by omega, by omega⟩ (fun q => absurd q (by decide)) (fun _ => ?_)
    refine q_throw hG rfl ?_
    exact p0 J h0 htr
def fixS (s : PT) (x : Nat) (v : Int) : PT := (upf s.1 x v, upf s.2.1 x v, 0)
theorem okB_fix {s : PT} (h : okB s) {x : Nat} {v : Int} (hv : 0 ≤ v ∧ v ≤ 40) : okB (fixS s x v) := fun k hk => by
  have a := h k hk
  show 0 ≤ upf s.1 x v k ∧ upf s.1 x v k ≤ upf s.2.1 x v k ∧ upf s.2.1 x v k ≤ 40
  unfold upf
  split <;> omega
theorem inP_fix {s : PT} {x : Nat} {v : Int} (hx : x < 6) (hv : s.1 x ≤ v ∧ v ≤ s.2.1 x) (p : Nat → Int) : inP (fixS s x v) p ↔ inP s p ∧ p x = v := by
  refine ⟨fun h => ⟨fun k hk => ?_, ?_⟩, fun h k hk => ?_⟩
  · have a : upf s.1 x v k ≤ p k ∧ p k ≤ upf s.2.1 x v k := h k hk
    unfold upf at a
    by_cases e : k = x
    · rw [if_pos e, if_pos e] at a
      rw [e] at a ⊢
      omega
    · rw [if_neg e, if_neg e] at a
      exact a
  · have a : upf s.1 x v x ≤ p x ∧ p x ≤ upf s.2.1 x v x := h x hx
    rw [upf_same, upf_same] at a
    omega
  · show upf s.1 x v k ≤ p k ∧ p k ≤ upf s.2.1 x v k
    have a := h.1 k hk
    unfold upf
    by_cases e : k = x
    · rw [if_pos e, if_pos e, e, h.2]
      omega
    · rw [if_neg e, if_neg e]
      exact a
/-- a peace that has two heights -/
def posR (R : RW) (x : Nat) (u : Int) (y : Nat) (v : Int) : Prop := ∃ p, peS R (ptR R) p ∧ p x = u ∧ p y = v
theorem fix_two {R : RW} {x y : Nat} {u v : Int} (hx : x < 6) (hy : y < 6) (hu : (ptR R).1 x ≤ u ∧ u ≤ (ptR R).2.1 x) (hv : (fixS (ptR R) x u).1 y ≤ v ∧ v ≤ (fixS (ptR R) x u).2.1 y) (p : Nat → Int) : peS R (fixS (fixS (ptR R) x u) y v) p ↔ peS R (ptR R) p ∧ p x = u ∧ p y = v := by
  unfold peS
  rw [inP_fix hy hv, inP_fix hx hu]
  exact ⟨fun h => ⟨⟨h.1.1.1, h.2⟩, h.1.1.2, h.1.2⟩, fun h => ⟨⟨⟨h.1.1, h.2.1⟩, h.2.2⟩, h.1.2⟩⟩
theorem s_X_arePossible {d : Nat} {B : HP} {I : IM} {Post : Out → HP → Prop} (hX : LX B) {R : RW} (hR : RepC I 1 R) {q : Int} (hW : WfR q R) (hq : q ≤ 2000000000) {xa ya ha ga : Int} (hvx : r32 xa) (hvy : r32 ya) (hvh : r32 ha) (hvg : r32 ga) (hz : ∀ k, k < 10 → I 157 k = 0) (pD : ¬ ((0 ≤ xa ∧ xa < R 0) ∧ (0 ≤ ya ∧ ya < R 0)) → Post (.inr 2) (wI (junk B 6) I)) (pA : (0 ≤ xa ∧ xa < R 0) ∧ (0 ≤ ya ∧ ya < R 0) → ¬ ((0 ≤ ha ∧ ha ≤ 40) ∧ (0 ≤ ga ∧ ga ≤ 40)) → Post (.inr 0) (wI (junk B 6) I)) (p1 : (0 ≤ xa ∧ xa < R 0) ∧ (0 ≤ ya ∧ ya < R 0) → ((0 ≤ ha ∧ ha ≤ 40) ∧ (0 ≤ ga ∧ ga ≤ 40)) → posR R xa.toNat ha ya.toNat ga → ∀ J : IM, trf I J → Post (.inl (some (.int (i3 1)))) (wI B J)) (p0 : (0 ≤ xa ∧ xa < R 0) ∧ (0 ≤ ya ∧ ya < R 0) → ((0 ≤ ha ∧ ha ≤ 40) ∧ (0 ≤ ga ∧ ga ≤ 40)) → ¬ posR R xa.toNat ha ya.toNat ga → ∀ J : IM, trf I J → Post (.inl (some (.int (i3 0)))) (wI B J)) : Sp (d + 17) k_X8_arePossible [.ref 0, .int (i3 (xa)), .int (i3 (ha)), .int (i3 (ya)), .int (i3 (ga))] (wI B I) Post := by
  refine Sp_intro md_X8_arePossible rfl rfl (fun G hG => ?_)
  have hX0 := hX
  obtain ⟨x0, x1, x2, x3, x4, x5, x6, x7, x8, x9, x10, x11, x12, x13, x14, x15, x16, x17, x18, x19, x20, x21, x22, x23, x24, x25, x26, x27, x28, x29, x30, x31, x32, x33, x34, x35, x36, x37, x38, x39, x40, x41, x42, x43, x44⟩ := hX
  obtain ⟨d1, d2, d3, d4, hF, hBd, hCo⟩ := x10
  obtain ⟨f1, f2, f3, f4, f5⟩ := hF
  obtain ⟨g1, g2, g3, g4, g5⟩ := hBd
  obtain ⟨c1, c2, c3, c4, c5, c6, c7, c8, c9, c10, c11⟩ := hCo
  obtain ⟨t1, t2, t3, t4, t5⟩ := x12
  have hR0 := hR
  obtain ⟨r0, r1, r2, r3, r4, rd, rc, ry⟩ := hR
  have r1 : I 8 0 = R 1 := r1
  have r2 : I 8 1 = R 2 := r2
  have rd : ∀ k, k < 6 → I 3 k = R (5 + 4 * k) ∧ I 4 k = R (5 + 4 * k + 1) ∧ I 6 k = R (5 + 4 * k + 2) ∧ I 7 k = R (5 + 4 * k + 3) := rd
  have rc : ∀ k : Nat, (k : Int) < R 1 → I 9 k = R (29 + 5 * k) ∧ I 10 k = R (29 + 5 * k + 1) ∧ I 11 k = R (29 + 5 * k + 2) ∧ I 12 k = R (29 + 5 * k + 3) ∧ I 13 k = R (29 + 5 * k + 4) := rc
  have ry : ∀ k, k < 10 → 0 ≤ I 10 k ∧ I 10 k < 65536 := ry
  have hW0 := hW
  obtain ⟨w0, w1, w2, w3, w4, wd, wc⟩ := hW
  show G 0 [some (.ref 0), some (.int (i3 (xa))), some (.int (i3 (ha))), some (.int (i3 (ya))), some (.int (i3 (ga)))] [] (wI B I)
  refine q_aload_n hG rfl rfl ?_
  refine q_iload_n hG rfl rfl ?_
  refine q_callV6 hG rfl rfl rfl (by assumption) (s_X_ckDoor hX0 hR0 hW0 hq hvx (fun hx1 hx2 => ?_) (fun hx => ?_))
  · refine q_aload_n hG rfl rfl ?_
    refine q_iload_n hG rfl rfl ?_
    refine q_callV6 hG rfl rfl rfl (by assumption) (s_X_ckDoor hX0 hR0 hW0 hq hvy (fun hy1 hy2 => ?_) (fun hy => ?_))
    · refine q_iload_n hG rfl rfl ?_
      refine q_callS0 hG rfl rfl rfl (s_X_height hvh (fun hh => ?_) (fun hh => ?_))
      · refine q_if_eq hG rfl ⟨by omega, by omega⟩ (fun q => absurd q (by decide)) (fun _ => ?_)
        refine q_iload hG rfl rfl ?_
        refine q_callS0 hG rfl rfl rfl (s_X_height hvg (fun hg => ?_) (fun hg => ?_))
        · refine q_if_ne hG rfl ⟨by omega, by omega⟩ (fun _ => ?_) (fun q => absurd (by decide) q)
          refine q_aload_n hG rfl rfl ?_
          refine q_getR hG rfl (by assumption) (by assumption) ?_
          refine q_aload_n hG rfl rfl ?_
          refine q_getR hG rfl (by assumption) (by assumption) ?_
          refine q_getR hG rfl (by assumption) (by assumption) ?_
          refine q_callV6 hG rfl rfl rfl (by assumption) (s_B_copy hX0.2.2.2.2.2.2.2.2.2.2.2.2.1 hX0.2.2.2.2.2.2.2.2.2.2.1.2.2.2.2.2.1 (by omega) (fun J1 a1 a2 a3 => ?_))
          have a3 : ∀ a, a ≠ 147 → a ≠ 148 → J1 a = I a := a3
          have a1 : ∀ j, j < 6 → J1 147 j = (ptR R).1 j := fun j hj => (a1 j hj).trans (rd j hj).2.2.1
          have a2 : ∀ j, j < 6 → J1 148 j = (ptR R).2.1 j := fun j hj => (a2 j hj).trans (rd j hj).2.2.2
          have ho1 := ptR_ok hW0
          have o1 := ho1 xa.toNat (by omega)
          have ho2 := okB_fix (x := xa.toNat) ho1 hh
          have o2 := ho2 ya.toNat (by omega)
          refine q_aload_n hG rfl rfl ?_
          refine q_getR hG rfl (by assumption) (by assumption) ?_
          refine q_iload_n hG rfl rfl ?_
          refine q_iload_n hG rfl rfl ?_
          refine q_callV6 hG rfl rfl rfl (by assumption) (s_B_fix (I := J1) hX0.2.2.2.2.2.2.2.2.2.2.2.2.1 ⟨by omega, by omega⟩ (by show r32 (J1 147 xa.toNat); rw [a1 _ (by omega)]; exact ⟨by omega, by omega⟩) (by show r32 (J1 148 xa.toNat); rw [a2 _ (by omega)]; exact ⟨by omega, by omega⟩) hvh (fun hf1 hf2 => ?_) (fun hf => ?_))
          · have hf1 : J1 147 xa.toNat ≤ ha := hf1
            have hf2 : ha ≤ J1 148 xa.toNat := hf2
            rw [a1 _ (by omega)] at hf1
            rw [a2 _ (by omega)] at hf2
            have b1 : ∀ j, j < 6 → (st (st J1 147 xa.toNat ha) 148 xa.toNat ha) 147 j = (fixS (ptR R) xa.toNat ha).1 j := fun j hj => by
              rw [st_row _ _ (by decide), st_fn]
              show upf (J1 147) xa.toNat ha j = upf (ptR R).1 xa.toNat ha j
              unfold upf
              rw [a1 j hj]
            have b2 : ∀ j, j < 6 → (st (st J1 147 xa.toNat ha) 148 xa.toNat ha) 148 j = (fixS (ptR R) xa.toNat ha).2.1 j := fun j hj => by
              rw [st_fn, st_row _ _ (by decide)]
              show upf (J1 148) xa.toNat ha j = upf (ptR R).2.1 xa.toNat ha j
              unfold upf
              rw [a2 j hj]
            refine q_if_eq hG rfl ⟨by omega, by omega⟩ (fun q => absurd q (by decide)) (fun _ => ?_)
            refine q_aload_n hG rfl rfl ?_
            refine q_getR hG rfl (by assumption) (by assumption) ?_
            refine q_iload_n hG rfl rfl ?_
            refine q_iload hG rfl rfl ?_
            refine q_callV6 hG rfl rfl rfl (by assumption) (s_B_fix (I := (st (st J1 147 xa.toNat ha) 148 xa.toNat ha)) hX0.2.2.2.2.2.2.2.2.2.2.2.2.1 ⟨by omega, by omega⟩ (by show r32 ((st (st J1 147 xa.toNat ha) 148 xa.toNat ha) 147 ya.toNat); rw [b1 _ (by omega)]; exact ⟨by omega, by omega⟩) (by show r32 ((st (st J1 147 xa.toNat ha) 148 xa.toNat ha) 148 ya.toNat); rw [b2 _ (by omega)]; exact ⟨by omega, by omega⟩) hvg (fun he1 he2 => ?_) (fun he => ?_))
            · have he1 : (st (st J1 147 xa.toNat ha) 148 xa.toNat ha) 147 ya.toNat ≤ ga := he1
              have he2 : ga ≤ (st (st J1 147 xa.toNat ha) 148 xa.toNat ha) 148 ya.toNat := he2
              rw [b1 _ (by omega)] at he1
              rw [b2 _ (by omega)] at he2
              have k1 : ∀ j, j < 6 → (st (st (st (st J1 147 xa.toNat ha) 148 xa.toNat ha) 147 ya.toNat ga) 148 ya.toNat ga) 147 j = (fixS (fixS (ptR R) xa.toNat ha) ya.toNat ga).1 j := fun j hj => by
                rw [st_row _ _ (by decide), st_fn]
                show upf ((st (st J1 147 xa.toNat ha) 148 xa.toNat ha) 147) ya.toNat ga j = upf (fixS (ptR R) xa.toNat ha).1 ya.toNat ga j
                unfold upf
                rw [b1 j hj]
              have k2 : ∀ j, j < 6 → (st (st (st (st J1 147 xa.toNat ha) 148 xa.toNat ha) 147 ya.toNat ga) 148 ya.toNat ga) 148 j = (fixS (fixS (ptR R) xa.toNat ha) ya.toNat ga).2.1 j := fun j hj => by
                rw [st_fn, st_row _ _ (by decide)]
                show upf ((st (st J1 147 xa.toNat ha) 148 xa.toNat ha) 148) ya.toNat ga j = upf (fixS (ptR R) xa.toNat ha).2.1 ya.toNat ga j
                unfold upf
                rw [b2 j hj]
              have k3 : ∀ a, a ≠ 147 → a ≠ 148 → (st (st (st (st J1 147 xa.toNat ha) 148 xa.toNat ha) 147 ya.toNat ga) 148 ya.toNat ga) a = I a := fun a h7 h8 => by
                rw [st_row _ _ h8, st_row _ _ h7, st_row _ _ h8, st_row _ _ h7, a3 a h7 h8]
              have hff := fix_two (x := xa.toNat) (y := ya.toNat) (by omega) (by omega) ⟨hf1, hf2⟩ ⟨he1, he2⟩
              refine q_if_eq hG rfl ⟨by omega, by omega⟩ (fun q => absurd q (by decide)) (fun _ => ?_)
              refine q_aload_n hG rfl rfl ?_
              refine q_getR hG rfl (by assumption) (by assumption) ?_
              refine q_aload_n hG rfl rfl ?_
              refine q_getR hG rfl (by assumption) (by assumption) ?_
              refine q_getR hG rfl (by assumption) (by assumption) ?_
              refine q_aload_n hG rfl rfl ?_
              refine q_getR hG rfl (by assumption) (by assumption) ?_
              refine q_aload_n hG rfl rfl ?_
              refine q_getR hG rfl (by assumption) (by assumption) ?_
              refine q_getI0v (v := R 0) hG rfl (by assumption) (by show (st (st (st (st J1 147 xa.toNat ha) 148 xa.toNat ha) 147 ya.toNat ga) 148 ya.toNat ga) 1 0 = R 0; rw [k3 1 (by decide) (by decide)]; exact r0) ?_
              refine q_callV6 hG rfl rfl rfl (by assumption) (s_S_find (I := (st (st (st (st J1 147 xa.toNat ha) 148 xa.toNat ha) 147 ya.toNat ga) 148 ya.toNat ga)) hX0 (hR0.row (fun a u v => k3 a (by omega) (by omega))) hW0 hq (b := 146) (Or.inr rfl) (s := (fixS (fixS (ptR R) xa.toNat ha) ya.toNat ga)) (okB_fix ho2 hg) (fun k hk => ⟨k1 k hk, k2 k hk⟩) (fun k hk => by rw [k3 157 (by decide) (by decide)]; exact hz k hk) (fun J h1 h2 j => ?_) (fun J h0 j => ?_))
              · refine q_if_eq hG rfl ⟨by omega, by omega⟩ (fun q => absurd q (by decide)) (fun _ => ?_)
                refine q_iconst (v := 1) hG rfl rfl ?_
                refine q_goto hG rfl ?_
                refine q_iret5 hG rfl rfl (by decide) ?_
                exact p1 ⟨⟨hx1, hx2⟩, hy1, hy2⟩ ⟨hh, hg⟩ ⟨J 154, (hff _).mp h1⟩ J (fun a h9 => by rw [j a (by omega) (by omega) (by omega), k3 a (by omega) (by omega)])
              · refine q_if_eq hG rfl ⟨by omega, by omega⟩ (fun _ => ?_) (fun q => absurd (by decide) q)
                refine q_iconst (v := 0) hG rfl rfl ?_
                refine q_iret5 hG rfl rfl (by decide) ?_
                first
                | exact p0 ⟨⟨hx1, hx2⟩, hy1, hy2⟩ ⟨hh, hg⟩ (fun ⟨p, hp⟩ => h0 p ((hff p).mpr hp)) J (fun a h9 => by rw [j a (by omega) (by omega) (by omega), k3 a (by omega) (by omega)])
                | exact p0 ⟨⟨hx1, hx2⟩, hy1, hy2⟩ ⟨hh, hg⟩ (fun ⟨p, hp, e1, e2⟩ => he (by have z := (inP_fix (x := xa.toNat) (by omega) ⟨hf1, hf2⟩ p).mpr ⟨hp.1, e1⟩; have z := z ya.toNat (by omega); rw [e2] at z; exact z)) _ (fun a h9 => by rw [st_row _ _ (by omega), st_row _ _ (by omega), a3 a (by omega) (by omega)])
                | exact p0 ⟨⟨hx1, hx2⟩, hy1, hy2⟩ ⟨hh, hg⟩ (fun ⟨p, hp, e1, e2⟩ => hf (by have z := hp.1 xa.toNat (by omega); rw [e1] at z; exact z)) _ (fun a h9 => a3 a (by omega) (by omega))
            · have he : ¬ ((st (st J1 147 xa.toNat ha) 148 xa.toNat ha) 147 ya.toNat ≤ ga ∧ ga ≤ (st (st J1 147 xa.toNat ha) 148 xa.toNat ha) 148 ya.toNat) := he
              rw [b1 _ (by omega), b2 _ (by omega)] at he
              refine q_if_eq hG rfl ⟨by omega, by omega⟩ (fun _ => ?_) (fun q => absurd (by decide) q)
              refine q_iconst (v := 0) hG rfl rfl ?_
              refine q_iret5 hG rfl rfl (by decide) ?_
              first
              | exact p0 ⟨⟨hx1, hx2⟩, hy1, hy2⟩ ⟨hh, hg⟩ (fun ⟨p, hp⟩ => h0 p ((hff p).mpr hp)) J (fun a h9 => by rw [j a (by omega) (by omega) (by omega), k3 a (by omega) (by omega)])
              | exact p0 ⟨⟨hx1, hx2⟩, hy1, hy2⟩ ⟨hh, hg⟩ (fun ⟨p, hp, e1, e2⟩ => he (by have z := (inP_fix (x := xa.toNat) (by omega) ⟨hf1, hf2⟩ p).mpr ⟨hp.1, e1⟩; have z := z ya.toNat (by omega); rw [e2] at z; exact z)) _ (fun a h9 => by rw [st_row _ _ (by omega), st_row _ _ (by omega), a3 a (by omega) (by omega)])
              | exact p0 ⟨⟨hx1, hx2⟩, hy1, hy2⟩ ⟨hh, hg⟩ (fun ⟨p, hp, e1, e2⟩ => hf (by have z := hp.1 xa.toNat (by omega); rw [e1] at z; exact z)) _ (fun a h9 => a3 a (by omega) (by omega))
          · have hf : ¬ (J1 147 xa.toNat ≤ ha ∧ ha ≤ J1 148 xa.toNat) := hf
            rw [a1 _ (by omega), a2 _ (by omega)] at hf
            refine q_if_eq hG rfl ⟨by omega, by omega⟩ (fun _ => ?_) (fun q => absurd (by decide) q)
            refine q_iconst (v := 0) hG rfl rfl ?_
            refine q_iret5 hG rfl rfl (by decide) ?_
            first
            | exact p0 ⟨⟨hx1, hx2⟩, hy1, hy2⟩ ⟨hh, hg⟩ (fun ⟨p, hp⟩ => h0 p ((hff p).mpr hp)) J (fun a h9 => by rw [j a (by omega) (by omega) (by omega), k3 a (by omega) (by omega)])
            | exact p0 ⟨⟨hx1, hx2⟩, hy1, hy2⟩ ⟨hh, hg⟩ (fun ⟨p, hp, e1, e2⟩ => he (by have z := (inP_fix (x := xa.toNat) (by omega) ⟨hf1, hf2⟩ p).mpr ⟨hp.1, e1⟩; have z := z ya.toNat (by omega); rw [e2] at z; exact z)) _ (fun a h9 => by rw [st_row _ _ (by omega), st_row _ _ (by omega), a3 a (by omega) (by omega)])
            | exact p0 ⟨⟨hx1, hx2⟩, hy1, hy2⟩ ⟨hh, hg⟩ (fun ⟨p, hp, e1, e2⟩ => hf (by have z := hp.1 xa.toNat (by omega); rw [e1] at z; exact z)) _ (fun a h9 => a3 a (by omega) (by omega))
        · refine q_if_ne hG rfl ⟨by omega, by omega⟩ (fun q => absurd q (by decide)) (fun _ => ?_)
          refine q_throw hG rfl ?_
          first
          | exact pA ⟨⟨hx1, hx2⟩, hy1, hy2⟩ (fun z => hh z.1)
          | exact pA ⟨⟨hx1, hx2⟩, hy1, hy2⟩ (fun z => hg z.2)
      · refine q_if_eq hG rfl ⟨by omega, by omega⟩ (fun _ => ?_) (fun q => absurd (by decide) q)
        refine q_throw hG rfl ?_
        first
        | exact pA ⟨⟨hx1, hx2⟩, hy1, hy2⟩ (fun z => hh z.1)
        | exact pA ⟨⟨hx1, hx2⟩, hy1, hy2⟩ (fun z => hg z.2)
    · exact pD (fun z => hy z.2)
  · exact pD (fun z => hx z.1)
