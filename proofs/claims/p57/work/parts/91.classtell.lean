/-! the class: what it tells -/
def tkR (R : RW) (x : Int) : Int := sm (fun k => if R (29 + 5 * k + 2) = x ∨ R (29 + 5 * k + 3) = x then 1 else 0) (R 1).toNat
def wdR (R : RW) (k : Nat) : Int := R (5 + 4 * k + 3) - R (5 + 4 * k + 2) + 1
abbrev ahR (R : RW) (o x : Nat) : Prop := wdR R o < wdR R x ∨ (wdR R o = wdR R x ∧ (tkR R x < tkR R o ∨ (tkR R o = tkR R x ∧ o < x)))
def dwR (R : RW) (q : Nat) : Int := sm (fun o => if ahR R o q then 1 else 0) (R 0).toNat
def cgR (R : RW) (q : Nat) : Int := sm (fun o => if R (29 + 5 * q + 4) < R (29 + 5 * o + 4) ∨ (R (29 + 5 * o + 4) = R (29 + 5 * q + 4) ∧ o < q) then 1 else 0) (R 1).toNat
def fxR (R : RW) : Int := sm (fun k => if R (5 + 4 * k + 2) = R (5 + 4 * k + 3) then 1 else 0) (R 0).toNat
def twR (R : RW) : Int := sm (wdR R) (R 0).toNat
def tfR (R : RW) : Int := sm (fun k => R (5 + 4 * k + 1) - R (5 + 4 * k) + 1) (R 0).toNat
abbrev fdR (R : RW) (v : Int) (p : Nat) : Prop := fst (fun k => R (29 + 5 * k) = v) (R 1).toNat p
abbrev noR (R : RW) (v : Int) : Prop := ∀ k, k < (R 1).toNat → ¬ R (29 + 5 * k) = v
def alR (R : RW) (p : Nat) : Prop := alwP (R (29 + 5 * p + 1)) (R (5 + 4 * (R (29 + 5 * p + 2)).toNat + 2)) (R (5 + 4 * (R (29 + 5 * p + 2)).toNat + 3)) (R (5 + 4 * (R (29 + 5 * p + 3)).toNat + 2)) (R (5 + 4 * (R (29 + 5 * p + 3)).toNat + 3)) (R (29 + 5 * p + 4))
def nvR (R : RW) (p : Nat) : Prop := nevP (R (29 + 5 * p + 1)) (R (5 + 4 * (R (29 + 5 * p + 2)).toNat + 2)) (R (5 + 4 * (R (29 + 5 * p + 2)).toNat + 3)) (R (5 + 4 * (R (29 + 5 * p + 3)).toNat + 2)) (R (5 + 4 * (R (29 + 5 * p + 3)).toNat + 3)) (R (29 + 5 * p + 4))
theorem rep_ct {I : IM} {R : RW} (h : RepC I 1 R) (x : Int) : ctI I 1 x = tkR R x := by
  obtain ⟨-, r1, -, -, -, -, rc, -⟩ := h
  unfold ctI tkR
  rw [r1]
  refine sm_congr _ (fun k hk => ?_)
  obtain ⟨-, -, e2, e3, -⟩ := rc k (by omega)
  rw [e2, e3]
theorem rep_wd {I : IM} {R : RW} (h : RepC I 1 R) (k : Nat) (hk : k < 6) : wdI I 1 k = wdR R k := by
  obtain ⟨-, -, e2, e3⟩ := h.2.2.2.2.2.1 k hk
  unfold wdI wdR
  rw [e2, e3]
theorem rep_dw {I : IM} {R : RW} (h : RepC I 1 R) (h6 : R 0 ≤ 6) (q : Nat) (hq : q < 6) : sm (fun o => if ahP I 1 o q then 1 else 0) (I 1 0).toNat = dwR R q := by
  unfold dwR
  rw [h.1]
  refine sm_congr _ (fun k hk => ?_)
  unfold ahP ahR
  rw [rep_ct h, rep_ct h, rep_wd h k (by omega), rep_wd h q hq]

theorem s_X_doorCount {d : Nat} {B : HP} {I : IM} {Post : Out → HP → Prop} (hX : LX B) {R : RW} (hR : RepC I 1 R) {q : Int} (hW : WfR q R) (hq : q ≤ 2000000000)  (p1 : Post (.inl (some (.int (i3 (R 0))))) (wI B I)) : Sp (d + 1) k_X8_doorCount [.ref 0] (wI B I) Post := by
  refine Sp_intro md_X8_doorCount rfl rfl (fun G hG => ?_)
  have hX0 := hX
  obtain ⟨x0, x1, x2, x3, x4, x5, x6, x7, x8, x9, x10, x11, x12, x13, x14, x15, x16, x17, x18, x19, x20, x21, x22, x23, x24, x25, x26, x27, x28, x29, x30, x31, x32, x33, x34, x35, x36, x37, x38, x39, x40, x41, x42, x43, x44⟩ := hX
  obtain ⟨d1, d2, d3, d4, hF, hBd, hCo⟩ := x10
  obtain ⟨f1, f2, f3, f4, f5⟩ := hF
  obtain ⟨g1, g2, g3, g4, g5⟩ := hBd
  obtain ⟨c1, c2, c3, c4, c5, c6, c7, c8, c9, c10, c11⟩ := hCo
  obtain ⟨t1, t2, t3, t4, t5⟩ := x12
  have hR0 := hR
  obtain ⟨r0, r1, r2, r3, r4, rd, rc, ry⟩ := hR
  have r1 : I 8 0 = R 1 := r1
  have r2 : I 8 1 = R 2 := r2
  have rd : ∀ k, k < 6 → I 3 k = R (5 + 4 * k) ∧ I 4 k = R (5 + 4 * k + 1) ∧ I 6 k = R (5 + 4 * k + 2) ∧ I 7 k = R (5 + 4 * k + 3) := rd
  have rc : ∀ k : Nat, (k : Int) < R 1 → I 9 k = R (29 + 5 * k) ∧ I 10 k = R (29 + 5 * k + 1) ∧ I 11 k = R (29 + 5 * k + 2) ∧ I 12 k = R (29 + 5 * k + 3) ∧ I 13 k = R (29 + 5 * k + 4) := rc
  have ry : ∀ k, k < 10 → 0 ≤ I 10 k ∧ I 10 k < 65536 := ry
  have hW0 := hW
  obtain ⟨w0, w1, w2, w3, w4, wd, wc⟩ := hW
  show G 0 [some (.ref 0)] [] (wI B I)
  refine q_aload_n hG rfl rfl ?_
  refine q_getR hG rfl (by assumption) (by assumption) ?_
  refine q_getI0v (v := R 0) hG rfl (by assumption) (r0) ?_
  refine q_iret0 hG rfl rfl ?_
  exact p1
theorem s_X_lowOf {d : Nat} {B : HP} {I : IM} {Post : Out → HP → Prop} (hX : LX B) {R : RW} (hR : RepC I 1 R) {q : Int} (hW : WfR q R) (hq : q ≤ 2000000000) {x : Int} (hv : r32 x) (pE : ¬ (0 ≤ x ∧ x < R 0) → Post (.inr 2) (wI (junk B 6) I)) (p1 : 0 ≤ x ∧ x < R 0 → Post (.inl (some (.int (i3 (R (5 + 4 * x.toNat + 2)))))) (wI B I)) : Sp (d + 3) k_X8_lowOf [.ref 0, .int (i3 (x))] (wI B I) Post := by
  refine Sp_intro md_X8_lowOf rfl rfl (fun G hG => ?_)
  have hX0 := hX
  obtain ⟨x0, x1, x2, x3, x4, x5, x6, x7, x8, x9, x10, x11, x12, x13, x14, x15, x16, x17, x18, x19, x20, x21, x22, x23, x24, x25, x26, x27, x28, x29, x30, x31, x32, x33, x34, x35, x36, x37, x38, x39, x40, x41, x42, x43, x44⟩ := hX
  obtain ⟨d1, d2, d3, d4, hF, hBd, hCo⟩ := x10
  obtain ⟨f1, f2, f3, f4, f5⟩ := hF
  obtain ⟨g1, g2, g3, g4, g5⟩ := hBd
  obtain ⟨c1, c2, c3, c4, c5, c6, c7, c8, c9, c10, c11⟩ := hCo
  obtain ⟨t1, t2, t3, t4, t5⟩ := x12
  have hR0 := hR
  obtain ⟨r0, r1, r2, r3, r4, rd, rc, ry⟩ := hR
  have r1 : I 8 0 = R 1 := r1
  have r2 : I 8 1 = R 2 := r2
  have rd : ∀ k, k < 6 → I 3 k = R (5 + 4 * k) ∧ I 4 k = R (5 + 4 * k + 1) ∧ I 6 k = R (5 + 4 * k + 2) ∧ I 7 k = R (5 + 4 * k + 3) := rd
  have rc : ∀ k : Nat, (k : Int) < R 1 → I 9 k = R (29 + 5 * k) ∧ I 10 k = R (29 + 5 * k + 1) ∧ I 11 k = R (29 + 5 * k + 2) ∧ I 12 k = R (29 + 5 * k + 3) ∧ I 13 k = R (29 + 5 * k + 4) := rc
  have ry : ∀ k, k < 10 → 0 ≤ I 10 k ∧ I 10 k < 65536 := ry
  have hW0 := hW
  obtain ⟨w0, w1, w2, w3, w4, wd, wc⟩ := hW
  show G 0 [some (.ref 0), some (.int (i3 (x)))] [] (wI B I)
  refine q_aload_n hG rfl rfl ?_
  refine q_iload_n hG rfl rfl ?_
  refine q_callV6 hG rfl rfl rfl (by assumption) (s_X_ckDoor hX0 hR0 hW0 hq hv (fun hx1 hx2 => ?_) (fun hx => ?_))
  · obtain ⟨u1, u2, u3, u4⟩ := rd x.toNat (by omega)
    have uw := (wd x.toNat (by omega)).1
    refine q_aload_n hG rfl rfl ?_
    refine q_getR hG rfl (by assumption) (by assumption) ?_
    refine q_getR hG rfl (by assumption) (by assumption) ?_
    refine q_getR hG rfl (by assumption) (by assumption) ?_
    refine q_iload_n hG rfl rfl ?_
    refine q_ialdv (v := R (5 + 4 * x.toNat + 2)) hG rfl (by assumption) ⟨by omega, by omega, by omega⟩ (u3) ?_
    refine q_iret0 hG rfl rfl ?_
    exact p1 ⟨hx1, hx2⟩
  · exact pE hx
theorem s_X_highOf {d : Nat} {B : HP} {I : IM} {Post : Out → HP → Prop} (hX : LX B) {R : RW} (hR : RepC I 1 R) {q : Int} (hW : WfR q R) (hq : q ≤ 2000000000) {x : Int} (hv : r32 x) (pE : ¬ (0 ≤ x ∧ x < R 0) → Post (.inr 2) (wI (junk B 6) I)) (p1 : 0 ≤ x ∧ x < R 0 → Post (.inl (some (.int (i3 (R (5 + 4 * x.toNat + 3)))))) (wI B I)) : Sp (d + 3) k_X8_highOf [.ref 0, .int (i3 (x))] (wI B I) Post := by
  refine Sp_intro md_X8_highOf rfl rfl (fun G hG => ?_)
  have hX0 := hX
  obtain ⟨x0, x1, x2, x3, x4, x5, x6, x7, x8, x9, x10, x11, x12, x13, x14, x15, x16, x17, x18, x19, x20, x21, x22, x23, x24, x25, x26, x27, x28, x29, x30, x31, x32, x33, x34, x35, x36, x37, x38, x39, x40, x41, x42, x43, x44⟩ := hX
  obtain ⟨d1, d2, d3, d4, hF, hBd, hCo⟩ := x10
  obtain ⟨f1, f2, f3, f4, f5⟩ := hF
  obtain ⟨g1, g2, g3, g4, g5⟩ := hBd
  obtain ⟨c1, c2, c3, c4, c5, c6, c7, c8, c9, c10, c11⟩ := hCo
  obtain ⟨t1, t2, t3, t4, t5⟩ := x12
  have hR0 := hR
  obtain ⟨r0, r1, r2, r3, r4, rd, rc, ry⟩ := hR
  have r1 : I 8 0 = R 1 := r1
  have r2 : I 8 1 = R 2 := r2
  have rd : ∀ k, k < 6 → I 3 k = R (5 + 4 * k) ∧ I 4 k = R (5 + 4 * k + 1) ∧ I 6 k = R (5 + 4 * k + 2) ∧ I 7 k = R (5 + 4 * k + 3) := rd
  have rc : ∀ k : Nat, (k : Int) < R 1 → I 9 k = R (29 + 5 * k) ∧ I 10 k = R (29 + 5 * k + 1) ∧ I 11 k = R (29 + 5 * k + 2) ∧ I 12 k = R (29 + 5 * k + 3) ∧ I 13 k = R (29 + 5 * k + 4) := rc
  have ry : ∀ k, k < 10 → 0 ≤ I 10 k ∧ I 10 k < 65536 := ry
  have hW0 := hW
  obtain ⟨w0, w1, w2, w3, w4, wd, wc⟩ := hW
  show G 0 [some (.ref 0), some (.int (i3 (x)))] [] (wI B I)
  refine q_aload_n hG rfl rfl ?_
  refine q_iload_n hG rfl rfl ?_
  refine q_callV6 hG rfl rfl rfl (by assumption) (s_X_ckDoor hX0 hR0 hW0 hq hv (fun hx1 hx2 => ?_) (fun hx => ?_))
  · obtain ⟨u1, u2, u3, u4⟩ := rd x.toNat (by omega)
    have uw := (wd x.toNat (by omega)).1
    refine q_aload_n hG rfl rfl ?_
    refine q_getR hG rfl (by assumption) (by assumption) ?_
    refine q_getR hG rfl (by assumption) (by assumption) ?_
    refine q_getR hG rfl (by assumption) (by assumption) ?_
    refine q_iload_n hG rfl rfl ?_
    refine q_ialdv (v := R (5 + 4 * x.toNat + 3)) hG rfl (by assumption) ⟨by omega, by omega, by omega⟩ (u4) ?_
    refine q_iret0 hG rfl rfl ?_
    exact p1 ⟨hx1, hx2⟩
  · exact pE hx
theorem s_X_frameLow {d : Nat} {B : HP} {I : IM} {Post : Out → HP → Prop} (hX : LX B) {R : RW} (hR : RepC I 1 R) {q : Int} (hW : WfR q R) (hq : q ≤ 2000000000) {x : Int} (hv : r32 x) (pE : ¬ (0 ≤ x ∧ x < R 0) → Post (.inr 2) (wI (junk B 6) I)) (p1 : 0 ≤ x ∧ x < R 0 → Post (.inl (some (.int (i3 (R (5 + 4 * x.toNat)))))) (wI B I)) : Sp (d + 3) k_X8_frameLow [.ref 0, .int (i3 (x))] (wI B I) Post := by
  refine Sp_intro md_X8_frameLow rfl rfl (fun G hG => ?_)
  have hX0 := hX
  obtain ⟨x0, x1, x2, x3, x4, x5, x6, x7, x8, x9, x10, x11, x12, x13, x14, x15, x16, x17, x18, x19, x20, x21, x22, x23, x24, x25, x26, x27, x28, x29, x30, x31, x32, x33, x34, x35, x36, x37, x38, x39, x40, x41, x42, x43, x44⟩ := hX
  obtain ⟨d1, d2, d3, d4, hF, hBd, hCo⟩ := x10
  obtain ⟨f1, f2, f3, f4, f5⟩ := hF
  obtain ⟨g1, g2, g3, g4, g5⟩ := hBd
  obtain ⟨c1, c2, c3, c4, c5, c6, c7, c8, c9, c10, c11⟩ := hCo
  obtain ⟨t1, t2, t3, t4, t5⟩ := x12
  have hR0 := hR
  obtain ⟨r0, r1, r2, r3, r4, rd, rc, ry⟩ := hR
  have r1 : I 8 0 = R 1 := r1
  have r2 : I 8 1 = R 2 := r2
  have rd : ∀ k, k < 6 → I 3 k = R (5 + 4 * k) ∧ I 4 k = R (5 + 4 * k + 1) ∧ I 6 k = R (5 + 4 * k + 2) ∧ I 7 k = R (5 + 4 * k + 3) := rd
  have rc : ∀ k : Nat, (k : Int) < R 1 → I 9 k = R (29 + 5 * k) ∧ I 10 k = R (29 + 5 * k + 1) ∧ I 11 k = R (29 + 5 * k + 2) ∧ I 12 k = R (29 + 5 * k + 3) ∧ I 13 k = R (29 + 5 * k + 4) := rc
  have ry : ∀ k, k < 10 → 0 ≤ I 10 k ∧ I 10 k < 65536 := ry
  have hW0 := hW
  obtain ⟨w0, w1, w2, w3, w4, wd, wc⟩ := hW
  show G 0 [some (.ref 0), some (.int (i3 (x)))] [] (wI B I)
  refine q_aload_n hG rfl rfl ?_
  refine q_iload_n hG rfl rfl ?_
  refine q_callV6 hG rfl rfl rfl (by assumption) (s_X_ckDoor hX0 hR0 hW0 hq hv (fun hx1 hx2 => ?_) (fun hx => ?_))
  · obtain ⟨u1, u2, u3, u4⟩ := rd x.toNat (by omega)
    have uw := (wd x.toNat (by omega)).1
    refine q_aload_n hG rfl rfl ?_
    refine q_getR hG rfl (by assumption) (by assumption) ?_
    refine q_getR hG rfl (by assumption) (by assumption) ?_
    refine q_getR hG rfl (by assumption) (by assumption) ?_
    refine q_iload_n hG rfl rfl ?_
    refine q_ialdv (v := R (5 + 4 * x.toNat)) hG rfl (by assumption) ⟨by omega, by omega, by omega⟩ (u1) ?_
    refine q_iret0 hG rfl rfl ?_
    exact p1 ⟨hx1, hx2⟩
  · exact pE hx
theorem s_X_frameHigh {d : Nat} {B : HP} {I : IM} {Post : Out → HP → Prop} (hX : LX B) {R : RW} (hR : RepC I 1 R) {q : Int} (hW : WfR q R) (hq : q ≤ 2000000000) {x : Int} (hv : r32 x) (pE : ¬ (0 ≤ x ∧ x < R 0) → Post (.inr 2) (wI (junk B 6) I)) (p1 : 0 ≤ x ∧ x < R 0 → Post (.inl (some (.int (i3 (R (5 + 4 * x.toNat + 1)))))) (wI B I)) : Sp (d + 3) k_X8_frameHigh [.ref 0, .int (i3 (x))] (wI B I) Post := by
  refine Sp_intro md_X8_frameHigh rfl rfl (fun G hG => ?_)
  have hX0 := hX
  obtain ⟨x0, x1, x2, x3, x4, x5, x6, x7, x8, x9, x10, x11, x12, x13, x14, x15, x16, x17, x18, x19, x20, x21, x22, x23, x24, x25, x26, x27, x28, x29, x30, x31, x32, x33, x34, x35, x36, x37, x38, x39, x40, x41, x42, x43, x44⟩ := hX
  obtain ⟨d1, d2, d3, d4, hF, hBd, hCo⟩ := x10
  obtain ⟨f1, f2, f3, f4, f5⟩ := hF
  obtain ⟨g1, g2, g3, g4, g5⟩ := hBd
  obtain ⟨c1, c2, c3, c4, c5, c6, c7, c8, c9, c10, c11⟩ := hCo
  obtain ⟨t1, t2, t3, t4, t5⟩ := x12
  have hR0 := hR
  obtain ⟨r0, r1, r2, r3, r4, rd, rc, ry⟩ := hR
  have r1 : I 8 0 = R 1 := r1
  have r2 : I 8 1 = R 2 := r2
  have rd : ∀ k, k < 6 → I 3 k = R (5 + 4 * k) ∧ I 4 k = R (5 + 4 * k + 1) ∧ I 6 k = R (5 + 4 * k + 2) ∧ I 7 k = R (5 + 4 * k + 3) := rd
  have rc : ∀ k : Nat, (k : Int) < R 1 → I 9 k = R (29 + 5 * k) ∧ I 10 k = R (29 + 5 * k + 1) ∧ I 11 k = R (29 + 5 * k + 2) ∧ I 12 k = R (29 + 5 * k + 3) ∧ I 13 k = R (29 + 5 * k + 4) := rc
  have ry : ∀ k, k < 10 → 0 ≤ I 10 k ∧ I 10 k < 65536 := ry
  have hW0 := hW
  obtain ⟨w0, w1, w2, w3, w4, wd, wc⟩ := hW
  show G 0 [some (.ref 0), some (.int (i3 (x)))] [] (wI B I)
  refine q_aload_n hG rfl rfl ?_
  refine q_iload_n hG rfl rfl ?_
  refine q_callV6 hG rfl rfl rfl (by assumption) (s_X_ckDoor hX0 hR0 hW0 hq hv (fun hx1 hx2 => ?_) (fun hx => ?_))
  · obtain ⟨u1, u2, u3, u4⟩ := rd x.toNat (by omega)
    have uw := (wd x.toNat (by omega)).1
    refine q_aload_n hG rfl rfl ?_
    refine q_getR hG rfl (by assumption) (by assumption) ?_
    refine q_getR hG rfl (by assumption) (by assumption) ?_
    refine q_getR hG rfl (by assumption) (by assumption) ?_
    refine q_iload_n hG rfl rfl ?_
    refine q_ialdv (v := R (5 + 4 * x.toNat + 1)) hG rfl (by assumption) ⟨by omega, by omega, by omega⟩ (u2) ?_
    refine q_iret0 hG rfl rfl ?_
    exact p1 ⟨hx1, hx2⟩
  · exact pE hx
theorem s_X_widthOf {d : Nat} {B : HP} {I : IM} {Post : Out → HP → Prop} (hX : LX B) {R : RW} (hR : RepC I 1 R) {q : Int} (hW : WfR q R) (hq : q ≤ 2000000000) {x : Int} (hv : r32 x) (pE : ¬ (0 ≤ x ∧ x < R 0) → Post (.inr 2) (wI (junk B 6) I)) (p1 : 0 ≤ x ∧ x < R 0 → Post (.inl (some (.int (i3 (wdR R x.toNat))))) (wI B I)) : Sp (d + 3) k_X8_widthOf [.ref 0, .int (i3 (x))] (wI B I) Post := by
  refine Sp_intro md_X8_widthOf rfl rfl (fun G hG => ?_)
  have hX0 := hX
  obtain ⟨x0, x1, x2, x3, x4, x5, x6, x7, x8, x9, x10, x11, x12, x13, x14, x15, x16, x17, x18, x19, x20, x21, x22, x23, x24, x25, x26, x27, x28, x29, x30, x31, x32, x33, x34, x35, x36, x37, x38, x39, x40, x41, x42, x43, x44⟩ := hX
  obtain ⟨d1, d2, d3, d4, hF, hBd, hCo⟩ := x10
  obtain ⟨f1, f2, f3, f4, f5⟩ := hF
  obtain ⟨g1, g2, g3, g4, g5⟩ := hBd
  obtain ⟨c1, c2, c3, c4, c5, c6, c7, c8, c9, c10, c11⟩ := hCo
  obtain ⟨t1, t2, t3, t4, t5⟩ := x12
  have hR0 := hR
  obtain ⟨r0, r1, r2, r3, r4, rd, rc, ry⟩ := hR
  have r1 : I 8 0 = R 1 := r1
  have r2 : I 8 1 = R 2 := r2
  have rd : ∀ k, k < 6 → I 3 k = R (5 + 4 * k) ∧ I 4 k = R (5 + 4 * k + 1) ∧ I 6 k = R (5 + 4 * k + 2) ∧ I 7 k = R (5 + 4 * k + 3) := rd
  have rc : ∀ k : Nat, (k : Int) < R 1 → I 9 k = R (29 + 5 * k) ∧ I 10 k = R (29 + 5 * k + 1) ∧ I 11 k = R (29 + 5 * k + 2) ∧ I 12 k = R (29 + 5 * k + 3) ∧ I 13 k = R (29 + 5 * k + 4) := rc
  have ry : ∀ k, k < 10 → 0 ≤ I 10 k ∧ I 10 k < 65536 := ry
  have hW0 := hW
  obtain ⟨w0, w1, w2, w3, w4, wd, wc⟩ := hW
  show G 0 [some (.ref 0), some (.int (i3 (x)))] [] (wI B I)
  refine q_aload_n hG rfl rfl ?_
  refine q_iload_n hG rfl rfl ?_
  refine q_callV6 hG rfl rfl rfl (by assumption) (s_X_ckDoor hX0 hR0 hW0 hq hv (fun hx1 hx2 => ?_) (fun hx => ?_))
  · obtain ⟨u1, u2, u3, u4⟩ := rd x.toNat (by omega)
    have uw := (wd x.toNat (by omega)).1
    refine q_aload_n hG rfl rfl ?_
    refine q_getR hG rfl (by assumption) (by assumption) ?_
    refine q_getR hG rfl (by assumption) (by assumption) ?_
    refine q_iload_n hG rfl rfl ?_
    refine q_callV6 hG rfl rfl rfl (by assumption) (s_B_width hX0.2.2.2.2.2.2.2.2.2.2.1.2.2.2.2.2.1 ⟨by omega, by omega⟩ ?_)
    rw [show I (1 + 4 + 2) x.toNat - I (1 + 4 + 1) x.toNat + 1 = wdR R x.toNat from by show I 7 x.toNat - I 6 x.toNat + 1 = _; rw [u3, u4]; rfl]
    refine q_iret0 hG rfl rfl ?_
    exact p1 ⟨hx1, hx2⟩
  · exact pE hx
theorem s_X_isFixed {d : Nat} {B : HP} {I : IM} {Post : Out → HP → Prop} (hX : LX B) {R : RW} (hR : RepC I 1 R) {q : Int} (hW : WfR q R) (hq : q ≤ 2000000000) {x : Int} (hv : r32 x) (pE : ¬ (0 ≤ x ∧ x < R 0) → Post (.inr 2) (wI (junk B 6) I)) (p1 : 0 ≤ x ∧ x < R 0 → R (5 + 4 * x.toNat + 2) = R (5 + 4 * x.toNat + 3) → Post (.inl (some (.int (i3 1)))) (wI B I)) (p0 : 0 ≤ x ∧ x < R 0 → ¬ (R (5 + 4 * x.toNat + 2) = R (5 + 4 * x.toNat + 3)) → Post (.inl (some (.int (i3 0)))) (wI B I)) : Sp (d + 3) k_X8_isFixed [.ref 0, .int (i3 (x))] (wI B I) Post := by
  refine Sp_intro md_X8_isFixed rfl rfl (fun G hG => ?_)
  have hX0 := hX
  obtain ⟨x0, x1, x2, x3, x4, x5, x6, x7, x8, x9, x10, x11, x12, x13, x14, x15, x16, x17, x18, x19, x20, x21, x22, x23, x24, x25, x26, x27, x28, x29, x30, x31, x32, x33, x34, x35, x36, x37, x38, x39, x40, x41, x42, x43, x44⟩ := hX
  obtain ⟨d1, d2, d3, d4, hF, hBd, hCo⟩ := x10
  obtain ⟨f1, f2, f3, f4, f5⟩ := hF
  obtain ⟨g1, g2, g3, g4, g5⟩ := hBd
  obtain ⟨c1, c2, c3, c4, c5, c6, c7, c8, c9, c10, c11⟩ := hCo
  obtain ⟨t1, t2, t3, t4, t5⟩ := x12
  have hR0 := hR
  obtain ⟨r0, r1, r2, r3, r4, rd, rc, ry⟩ := hR
  have r1 : I 8 0 = R 1 := r1
  have r2 : I 8 1 = R 2 := r2
  have rd : ∀ k, k < 6 → I 3 k = R (5 + 4 * k) ∧ I 4 k = R (5 + 4 * k + 1) ∧ I 6 k = R (5 + 4 * k + 2) ∧ I 7 k = R (5 + 4 * k + 3) := rd
  have rc : ∀ k : Nat, (k : Int) < R 1 → I 9 k = R (29 + 5 * k) ∧ I 10 k = R (29 + 5 * k + 1) ∧ I 11 k = R (29 + 5 * k + 2) ∧ I 12 k = R (29 + 5 * k + 3) ∧ I 13 k = R (29 + 5 * k + 4) := rc
  have ry : ∀ k, k < 10 → 0 ≤ I 10 k ∧ I 10 k < 65536 := ry
  have hW0 := hW
  obtain ⟨w0, w1, w2, w3, w4, wd, wc⟩ := hW
  show G 0 [some (.ref 0), some (.int (i3 (x)))] [] (wI B I)
  refine q_aload_n hG rfl rfl ?_
  refine q_iload_n hG rfl rfl ?_
  refine q_callV6 hG rfl rfl rfl (by assumption) (s_X_ckDoor hX0 hR0 hW0 hq hv (fun hx1 hx2 => ?_) (fun hx => ?_))
  · obtain ⟨u1, u2, u3, u4⟩ := rd x.toNat (by omega)
    have uw := (wd x.toNat (by omega)).1
    refine q_aload_n hG rfl rfl ?_
    refine q_getR hG rfl (by assumption) (by assumption) ?_
    refine q_getR hG rfl (by assumption) (by assumption) ?_
    refine q_iload_n hG rfl rfl ?_
    refine q_callV6 hG rfl rfl rfl (by assumption) (s_B_one (I := I) hX0.2.2.2.2.2.2.2.2.2.2.1.2.2.2.2.2.1 ⟨by omega, by omega⟩ (by show r32 (I 6 x.toNat); rw [u3]; exact ⟨by omega, by omega⟩) (by show r32 (I 7 x.toNat); rw [u4]; exact ⟨by omega, by omega⟩) (fun he => ?_) (fun he => ?_))
    · have he : I 6 x.toNat = I 7 x.toNat := he
      rw [u3, u4] at he
      refine q_iret5 hG rfl rfl (by decide) ?_
      exact p1 ⟨hx1, hx2⟩ he
    · have he : ¬ I 6 x.toNat = I 7 x.toNat := he
      rw [u3, u4] at he
      refine q_iret5 hG rfl rfl (by decide) ?_
      exact p0 ⟨hx1, hx2⟩ he
  · exact pE hx
theorem s_X_constraintsOf {d : Nat} {B : HP} {I : IM} {Post : Out → HP → Prop} (hX : LX B) {R : RW} (hR : RepC I 1 R) {q : Int} (hW : WfR q R) (hq : q ≤ 2000000000) {x : Int} (hv : r32 x) (pE : ¬ (0 ≤ x ∧ x < R 0) → Post (.inr 2) (wI (junk B 6) I)) (p1 : 0 ≤ x ∧ x < R 0 → Post (.inl (some (.int (i3 (tkR R x))))) (wI B I)) : Sp (d + 3) k_X8_constraintsOf [.ref 0, .int (i3 (x))] (wI B I) Post := by
  refine Sp_intro md_X8_constraintsOf rfl rfl (fun G hG => ?_)
  have hX0 := hX
  obtain ⟨x0, x1, x2, x3, x4, x5, x6, x7, x8, x9, x10, x11, x12, x13, x14, x15, x16, x17, x18, x19, x20, x21, x22, x23, x24, x25, x26, x27, x28, x29, x30, x31, x32, x33, x34, x35, x36, x37, x38, x39, x40, x41, x42, x43, x44⟩ := hX
  obtain ⟨d1, d2, d3, d4, hF, hBd, hCo⟩ := x10
  obtain ⟨f1, f2, f3, f4, f5⟩ := hF
  obtain ⟨g1, g2, g3, g4, g5⟩ := hBd
  obtain ⟨c1, c2, c3, c4, c5, c6, c7, c8, c9, c10, c11⟩ := hCo
  obtain ⟨t1, t2, t3, t4, t5⟩ := x12
  have hR0 := hR
  obtain ⟨r0, r1, r2, r3, r4, rd, rc, ry⟩ := hR
  have r1 : I 8 0 = R 1 := r1
  have r2 : I 8 1 = R 2 := r2
  have rd : ∀ k, k < 6 → I 3 k = R (5 + 4 * k) ∧ I 4 k = R (5 + 4 * k + 1) ∧ I 6 k = R (5 + 4 * k + 2) ∧ I 7 k = R (5 + 4 * k + 3) := rd
  have rc : ∀ k : Nat, (k : Int) < R 1 → I 9 k = R (29 + 5 * k) ∧ I 10 k = R (29 + 5 * k + 1) ∧ I 11 k = R (29 + 5 * k + 2) ∧ I 12 k = R (29 + 5 * k + 3) ∧ I 13 k = R (29 + 5 * k + 4) := rc
  have ry : ∀ k, k < 10 → 0 ≤ I 10 k ∧ I 10 k < 65536 := ry
  have hW0 := hW
  obtain ⟨w0, w1, w2, w3, w4, wd, wc⟩ := hW
  have rs : ∀ k : Nat, (k : Int) < I 8 0 → r32 (I 11 k) ∧ r32 (I 12 k) := fun k hk => by
    rw [r1] at hk
    obtain ⟨-, -, e2, e3, -⟩ := rc k hk
    obtain ⟨-, -, v3, v4, -⟩ := wc k hk
    rw [e2, e3]
    exact ⟨⟨by omega, by omega⟩, ⟨by omega, by omega⟩⟩
  show G 0 [some (.ref 0), some (.int (i3 (x)))] [] (wI B I)
  refine q_aload_n hG rfl rfl ?_
  refine q_iload_n hG rfl rfl ?_
  refine q_callV6 hG rfl rfl rfl (by assumption) (s_X_ckDoor hX0 hR0 hW0 hq hv (fun hx1 hx2 => ?_) (fun hx => ?_))
  · obtain ⟨u1, u2, u3, u4⟩ := rd x.toNat (by omega)
    have uw := (wd x.toNat (by omega)).1
    refine q_aload_n hG rfl rfl ?_
    refine q_getR hG rfl (by assumption) (by assumption) ?_
    refine q_getR hG rfl (by assumption) (by assumption) ?_
    refine q_iload_n hG rfl rfl ?_
    refine q_callV6 hG rfl rfl rfl (by assumption) (s_C_with (c := 8) (I := I) hX0.2.2.2.2.2.2.2.2.2.2.1.2.2.2.2.2.2 (by rw [r1]; exact w1) hv rs ?_)
    have e := rep_ct hR0 x
    unfold ctI at e
    rw [show sm (fun k => if I (8 + 3) k = x ∨ I (8 + 4) k = x then 1 else 0) (I 8 0).toNat = tkR R x from e]
    refine q_iret0 hG rfl rfl ?_
    exact p1 ⟨hx1, hx2⟩
  · exact pE hx
theorem s_X_constraintCount {d : Nat} {B : HP} {I : IM} {Post : Out → HP → Prop} (hX : LX B) {R : RW} (hR : RepC I 1 R) {q : Int} (hW : WfR q R) (hq : q ≤ 2000000000)  (p1 : Post (.inl (some (.int (i3 (R 1))))) (wI B I)) : Sp (d + 1) k_X8_constraintCount [.ref 0] (wI B I) Post := by
  refine Sp_intro md_X8_constraintCount rfl rfl (fun G hG => ?_)
  have hX0 := hX
  obtain ⟨x0, x1, x2, x3, x4, x5, x6, x7, x8, x9, x10, x11, x12, x13, x14, x15, x16, x17, x18, x19, x20, x21, x22, x23, x24, x25, x26, x27, x28, x29, x30, x31, x32, x33, x34, x35, x36, x37, x38, x39, x40, x41, x42, x43, x44⟩ := hX
  obtain ⟨d1, d2, d3, d4, hF, hBd, hCo⟩ := x10
  obtain ⟨f1, f2, f3, f4, f5⟩ := hF
  obtain ⟨g1, g2, g3, g4, g5⟩ := hBd
  obtain ⟨c1, c2, c3, c4, c5, c6, c7, c8, c9, c10, c11⟩ := hCo
  obtain ⟨t1, t2, t3, t4, t5⟩ := x12
  have hR0 := hR
  obtain ⟨r0, r1, r2, r3, r4, rd, rc, ry⟩ := hR
  have r1 : I 8 0 = R 1 := r1
  have r2 : I 8 1 = R 2 := r2
  have rd : ∀ k, k < 6 → I 3 k = R (5 + 4 * k) ∧ I 4 k = R (5 + 4 * k + 1) ∧ I 6 k = R (5 + 4 * k + 2) ∧ I 7 k = R (5 + 4 * k + 3) := rd
  have rc : ∀ k : Nat, (k : Int) < R 1 → I 9 k = R (29 + 5 * k) ∧ I 10 k = R (29 + 5 * k + 1) ∧ I 11 k = R (29 + 5 * k + 2) ∧ I 12 k = R (29 + 5 * k + 3) ∧ I 13 k = R (29 + 5 * k + 4) := rc
  have ry : ∀ k, k < 10 → 0 ≤ I 10 k ∧ I 10 k < 65536 := ry
  have hW0 := hW
  obtain ⟨w0, w1, w2, w3, w4, wd, wc⟩ := hW
  show G 0 [some (.ref 0)] [] (wI B I)
  refine q_aload_n hG rfl rfl ?_
  refine q_getR hG rfl (by assumption) (by assumption) ?_
  refine q_getR hG rfl (by assumption) (by assumption) ?_
  refine q_getI0v (v := R 1) hG rfl (by assumption) (r1) ?_
  refine q_iret0 hG rfl rfl ?_
  exact p1
theorem s_X_constraintAt {d : Nat} {B : HP} {I : IM} {Post : Out → HP → Prop} (hX : LX B) {R : RW} (hR : RepC I 1 R) {q : Int} (hW : WfR q R) (hq : q ≤ 2000000000) {x : Int} (hv : r32 x) (pE : ¬ (0 ≤ x ∧ x < R 1) → Post (.inr 3) (wI (junk B 6) I)) (p1 : 0 ≤ x ∧ x < R 1 → Post (.inl (some (.int (i3 (R (29 + 5 * x.toNat)))))) (wI B I)) : Sp (d + 1) k_X8_constraintAt [.ref 0, .int (i3 (x))] (wI B I) Post := by
  refine Sp_intro md_X8_constraintAt rfl rfl (fun G hG => ?_)
  have hX0 := hX
  obtain ⟨x0, x1, x2, x3, x4, x5, x6, x7, x8, x9, x10, x11, x12, x13, x14, x15, x16, x17, x18, x19, x20, x21, x22, x23, x24, x25, x26, x27, x28, x29, x30, x31, x32, x33, x34, x35, x36, x37, x38, x39, x40, x41, x42, x43, x44⟩ := hX
  obtain ⟨d1, d2, d3, d4, hF, hBd, hCo⟩ := x10
  obtain ⟨f1, f2, f3, f4, f5⟩ := hF
  obtain ⟨g1, g2, g3, g4, g5⟩ := hBd
  obtain ⟨c1, c2, c3, c4, c5, c6, c7, c8, c9, c10, c11⟩ := hCo
  obtain ⟨t1, t2, t3, t4, t5⟩ := x12
  have hR0 := hR
  obtain ⟨r0, r1, r2, r3, r4, rd, rc, ry⟩ := hR
  have r1 : I 8 0 = R 1 := r1
  have r2 : I 8 1 = R 2 := r2
  have rd : ∀ k, k < 6 → I 3 k = R (5 + 4 * k) ∧ I 4 k = R (5 + 4 * k + 1) ∧ I 6 k = R (5 + 4 * k + 2) ∧ I 7 k = R (5 + 4 * k + 3) := rd
  have rc : ∀ k : Nat, (k : Int) < R 1 → I 9 k = R (29 + 5 * k) ∧ I 10 k = R (29 + 5 * k + 1) ∧ I 11 k = R (29 + 5 * k + 2) ∧ I 12 k = R (29 + 5 * k + 3) ∧ I 13 k = R (29 + 5 * k + 4) := rc
  have ry : ∀ k, k < 10 → 0 ≤ I 10 k ∧ I 10 k < 65536 := ry
  have hW0 := hW
  obtain ⟨w0, w1, w2, w3, w4, wd, wc⟩ := hW
  show G 0 [some (.ref 0), some (.int (i3 (x)))] [] (wI B I)
  refine q_iload_n hG rfl rfl ?_
  refine q_if_lt hG rfl (hv) (fun hc1 => ?_) (fun hc1 => ?_)
  · refine q_throw hG rfl ?_
    exact pE (by omega)
  · refine q_iload_n hG rfl rfl ?_
    refine q_aload_n hG rfl rfl ?_
    refine q_getR hG rfl (by assumption) (by assumption) ?_
    refine q_getR hG rfl (by assumption) (by assumption) ?_
    refine q_getI0v (v := R 1) hG rfl (by assumption) (r1) ?_
    refine q_icmp_lt hG rfl (hv) ⟨by omega, by omega⟩ (fun hc15 => ?_) (fun hc15 => ?_)
    · refine q_aload_n hG rfl rfl ?_
      refine q_getR hG rfl (by assumption) (by assumption) ?_
      refine q_getR hG rfl (by assumption) (by assumption) ?_
      refine q_getR hG rfl (by assumption) (by assumption) ?_
      refine q_iload_n hG rfl rfl ?_
      refine q_ialdv (v := R (29 + 5 * x.toNat)) hG rfl (by assumption) ⟨by omega, by omega, by omega⟩ ((rc x.toNat (by omega)).1) ?_
      refine q_iret0 hG rfl rfl ?_
      exact p1 ⟨by omega, by omega⟩
    · refine q_throw hG rfl ?_
      exact pE (by omega)
theorem s_X_kindOf {d : Nat} {B : HP} {I : IM} {Post : Out → HP → Prop} (hX : LX B) {R : RW} (hR : RepC I 1 R) {q : Int} (hW : WfR q R) (hq : q ≤ 2000000000) {x : Int} (hv : r32 x) (pE : noR R x → Post (.inr 3) (wI (junk B 6) I)) (p1 : ∀ p : Nat, fdR R x p → Post (.inl (some (.int (i3 (R (29 + 5 * p + 1)))))) (wI B I)) : Sp (d + 3) k_X8_kindOf [.ref 0, .int (i3 (x))] (wI B I) Post := by
  refine Sp_intro md_X8_kindOf rfl rfl (fun G hG => ?_)
  have hX0 := hX
  obtain ⟨x0, x1, x2, x3, x4, x5, x6, x7, x8, x9, x10, x11, x12, x13, x14, x15, x16, x17, x18, x19, x20, x21, x22, x23, x24, x25, x26, x27, x28, x29, x30, x31, x32, x33, x34, x35, x36, x37, x38, x39, x40, x41, x42, x43, x44⟩ := hX
  obtain ⟨d1, d2, d3, d4, hF, hBd, hCo⟩ := x10
  obtain ⟨f1, f2, f3, f4, f5⟩ := hF
  obtain ⟨g1, g2, g3, g4, g5⟩ := hBd
  obtain ⟨c1, c2, c3, c4, c5, c6, c7, c8, c9, c10, c11⟩ := hCo
  obtain ⟨t1, t2, t3, t4, t5⟩ := x12
  have hR0 := hR
  obtain ⟨r0, r1, r2, r3, r4, rd, rc, ry⟩ := hR
  have r1 : I 8 0 = R 1 := r1
  have r2 : I 8 1 = R 2 := r2
  have rd : ∀ k, k < 6 → I 3 k = R (5 + 4 * k) ∧ I 4 k = R (5 + 4 * k + 1) ∧ I 6 k = R (5 + 4 * k + 2) ∧ I 7 k = R (5 + 4 * k + 3) := rd
  have rc : ∀ k : Nat, (k : Int) < R 1 → I 9 k = R (29 + 5 * k) ∧ I 10 k = R (29 + 5 * k + 1) ∧ I 11 k = R (29 + 5 * k + 2) ∧ I 12 k = R (29 + 5 * k + 3) ∧ I 13 k = R (29 + 5 * k + 4) := rc
  have ry : ∀ k, k < 10 → 0 ≤ I 10 k ∧ I 10 k < 65536 := ry
  have hW0 := hW
  obtain ⟨w0, w1, w2, w3, w4, wd, wc⟩ := hW
  show G 0 [some (.ref 0), some (.int (i3 (x)))] [] (wI B I)
  refine q_aload_n hG rfl rfl ?_
  refine q_getR hG rfl (by assumption) (by assumption) ?_
  refine q_getR hG rfl (by assumption) (by assumption) ?_
  refine q_getR hG rfl (by assumption) (by assumption) ?_
  refine q_aload_n hG rfl rfl ?_
  refine q_iload_n hG rfl rfl ?_
  refine q_callV6 hG rfl rfl rfl (by assumption) (s_X_ckPos hX0 hR0 hW0 hq hv (fun p hf => ?_) (fun hf => ?_))
  · have hpl := hf.1
    obtain ⟨v1, v2, v3, v4, v5⟩ := rc p (by omega)
    obtain ⟨y1, y2, y3, y4, y5, y6, y7⟩ := wc p (by omega)
    refine q_caldv (v := R (29 + 5 * p + 1)) hG rfl (by assumption) ⟨by omega, by omega, by omega⟩ (v2) ?_
    refine q_iret3 hG rfl rfl (by omega) ?_
    exact p1 p hf
  · exact pE hf
theorem s_X_firstOf {d : Nat} {B : HP} {I : IM} {Post : Out → HP → Prop} (hX : LX B) {R : RW} (hR : RepC I 1 R) {q : Int} (hW : WfR q R) (hq : q ≤ 2000000000) {x : Int} (hv : r32 x) (pE : noR R x → Post (.inr 3) (wI (junk B 6) I)) (p1 : ∀ p : Nat, fdR R x p → Post (.inl (some (.int (i3 (R (29 + 5 * p + 2)))))) (wI B I)) : Sp (d + 3) k_X8_firstOf [.ref 0, .int (i3 (x))] (wI B I) Post := by
  refine Sp_intro md_X8_firstOf rfl rfl (fun G hG => ?_)
  have hX0 := hX
  obtain ⟨x0, x1, x2, x3, x4, x5, x6, x7, x8, x9, x10, x11, x12, x13, x14, x15, x16, x17, x18, x19, x20, x21, x22, x23, x24, x25, x26, x27, x28, x29, x30, x31, x32, x33, x34, x35, x36, x37, x38, x39, x40, x41, x42, x43, x44⟩ := hX
  obtain ⟨d1, d2, d3, d4, hF, hBd, hCo⟩ := x10
  obtain ⟨f1, f2, f3, f4, f5⟩ := hF
  obtain ⟨g1, g2, g3, g4, g5⟩ := hBd
  obtain ⟨c1, c2, c3, c4, c5, c6, c7, c8, c9, c10, c11⟩ := hCo
  obtain ⟨t1, t2, t3, t4, t5⟩ := x12
  have hR0 := hR
  obtain ⟨r0, r1, r2, r3, r4, rd, rc, ry⟩ := hR
  have r1 : I 8 0 = R 1 := r1
  have r2 : I 8 1 = R 2 := r2
  have rd : ∀ k, k < 6 → I 3 k = R (5 + 4 * k) ∧ I 4 k = R (5 + 4 * k + 1) ∧ I 6 k = R (5 + 4 * k + 2) ∧ I 7 k = R (5 + 4 * k + 3) := rd
  have rc : ∀ k : Nat, (k : Int) < R 1 → I 9 k = R (29 + 5 * k) ∧ I 10 k = R (29 + 5 * k + 1) ∧ I 11 k = R (29 + 5 * k + 2) ∧ I 12 k = R (29 + 5 * k + 3) ∧ I 13 k = R (29 + 5 * k + 4) := rc
  have ry : ∀ k, k < 10 → 0 ≤ I 10 k ∧ I 10 k < 65536 := ry
  have hW0 := hW
  obtain ⟨w0, w1, w2, w3, w4, wd, wc⟩ := hW
  show G 0 [some (.ref 0), some (.int (i3 (x)))] [] (wI B I)
  refine q_aload_n hG rfl rfl ?_
  refine q_getR hG rfl (by assumption) (by assumption) ?_
  refine q_getR hG rfl (by assumption) (by assumption) ?_
  refine q_getR hG rfl (by assumption) (by assumption) ?_
  refine q_aload_n hG rfl rfl ?_
  refine q_iload_n hG rfl rfl ?_
  refine q_callV6 hG rfl rfl rfl (by assumption) (s_X_ckPos hX0 hR0 hW0 hq hv (fun p hf => ?_) (fun hf => ?_))
  · have hpl := hf.1
    obtain ⟨v1, v2, v3, v4, v5⟩ := rc p (by omega)
    obtain ⟨y1, y2, y3, y4, y5, y6, y7⟩ := wc p (by omega)
    refine q_ialdv (v := R (29 + 5 * p + 2)) hG rfl (by assumption) ⟨by omega, by omega, by omega⟩ (v3) ?_
    refine q_iret0 hG rfl rfl ?_
    exact p1 p hf
  · exact pE hf
theorem s_X_secondOf {d : Nat} {B : HP} {I : IM} {Post : Out → HP → Prop} (hX : LX B) {R : RW} (hR : RepC I 1 R) {q : Int} (hW : WfR q R) (hq : q ≤ 2000000000) {x : Int} (hv : r32 x) (pE : noR R x → Post (.inr 3) (wI (junk B 6) I)) (p1 : ∀ p : Nat, fdR R x p → Post (.inl (some (.int (i3 (R (29 + 5 * p + 3)))))) (wI B I)) : Sp (d + 3) k_X8_secondOf [.ref 0, .int (i3 (x))] (wI B I) Post := by
  refine Sp_intro md_X8_secondOf rfl rfl (fun G hG => ?_)
  have hX0 := hX
  obtain ⟨x0, x1, x2, x3, x4, x5, x6, x7, x8, x9, x10, x11, x12, x13, x14, x15, x16, x17, x18, x19, x20, x21, x22, x23, x24, x25, x26, x27, x28, x29, x30, x31, x32, x33, x34, x35, x36, x37, x38, x39, x40, x41, x42, x43, x44⟩ := hX
  obtain ⟨d1, d2, d3, d4, hF, hBd, hCo⟩ := x10
  obtain ⟨f1, f2, f3, f4, f5⟩ := hF
  obtain ⟨g1, g2, g3, g4, g5⟩ := hBd
  obtain ⟨c1, c2, c3, c4, c5, c6, c7, c8, c9, c10, c11⟩ := hCo
  obtain ⟨t1, t2, t3, t4, t5⟩ := x12
  have hR0 := hR
  obtain ⟨r0, r1, r2, r3, r4, rd, rc, ry⟩ := hR
  have r1 : I 8 0 = R 1 := r1
  have r2 : I 8 1 = R 2 := r2
  have rd : ∀ k, k < 6 → I 3 k = R (5 + 4 * k) ∧ I 4 k = R (5 + 4 * k + 1) ∧ I 6 k = R (5 + 4 * k + 2) ∧ I 7 k = R (5 + 4 * k + 3) := rd
  have rc : ∀ k : Nat, (k : Int) < R 1 → I 9 k = R (29 + 5 * k) ∧ I 10 k = R (29 + 5 * k + 1) ∧ I 11 k = R (29 + 5 * k + 2) ∧ I 12 k = R (29 + 5 * k + 3) ∧ I 13 k = R (29 + 5 * k + 4) := rc
  have ry : ∀ k, k < 10 → 0 ≤ I 10 k ∧ I 10 k < 65536 := ry
  have hW0 := hW
  obtain ⟨w0, w1, w2, w3, w4, wd, wc⟩ := hW
  show G 0 [some (.ref 0), some (.int (i3 (x)))] [] (wI B I)
  refine q_aload_n hG rfl rfl ?_
  refine q_getR hG rfl (by assumption) (by assumption) ?_
  refine q_getR hG rfl (by assumption) (by assumption) ?_
  refine q_getR hG rfl (by assumption) (by assumption) ?_
  refine q_aload_n hG rfl rfl ?_
  refine q_iload_n hG rfl rfl ?_
  refine q_callV6 hG rfl rfl rfl (by assumption) (s_X_ckPos hX0 hR0 hW0 hq hv (fun p hf => ?_) (fun hf => ?_))
  · have hpl := hf.1
    obtain ⟨v1, v2, v3, v4, v5⟩ := rc p (by omega)
    obtain ⟨y1, y2, y3, y4, y5, y6, y7⟩ := wc p (by omega)
    refine q_ialdv (v := R (29 + 5 * p + 3)) hG rfl (by assumption) ⟨by omega, by omega, by omega⟩ (v4) ?_
    refine q_iret0 hG rfl rfl ?_
    exact p1 p hf
  · exact pE hf
theorem s_X_gapOf {d : Nat} {B : HP} {I : IM} {Post : Out → HP → Prop} (hX : LX B) {R : RW} (hR : RepC I 1 R) {q : Int} (hW : WfR q R) (hq : q ≤ 2000000000) {x : Int} (hv : r32 x) (pE : noR R x → Post (.inr 3) (wI (junk B 6) I)) (p1 : ∀ p : Nat, fdR R x p → Post (.inl (some (.int (i3 (R (29 + 5 * p + 4)))))) (wI B I)) : Sp (d + 3) k_X8_gapOf [.ref 0, .int (i3 (x))] (wI B I) Post := by
  refine Sp_intro md_X8_gapOf rfl rfl (fun G hG => ?_)
  have hX0 := hX
  obtain ⟨x0, x1, x2, x3, x4, x5, x6, x7, x8, x9, x10, x11, x12, x13, x14, x15, x16, x17, x18, x19, x20, x21, x22, x23, x24, x25, x26, x27, x28, x29, x30, x31, x32, x33, x34, x35, x36, x37, x38, x39, x40, x41, x42, x43, x44⟩ := hX
  obtain ⟨d1, d2, d3, d4, hF, hBd, hCo⟩ := x10
  obtain ⟨f1, f2, f3, f4, f5⟩ := hF
  obtain ⟨g1, g2, g3, g4, g5⟩ := hBd
  obtain ⟨c1, c2, c3, c4, c5, c6, c7, c8, c9, c10, c11⟩ := hCo
  obtain ⟨t1, t2, t3, t4, t5⟩ := x12
  have hR0 := hR
  obtain ⟨r0, r1, r2, r3, r4, rd, rc, ry⟩ := hR
  have r1 : I 8 0 = R 1 := r1
  have r2 : I 8 1 = R 2 := r2
  have rd : ∀ k, k < 6 → I 3 k = R (5 + 4 * k) ∧ I 4 k = R (5 + 4 * k + 1) ∧ I 6 k = R (5 + 4 * k + 2) ∧ I 7 k = R (5 + 4 * k + 3) := rd
  have rc : ∀ k : Nat, (k : Int) < R 1 → I 9 k = R (29 + 5 * k) ∧ I 10 k = R (29 + 5 * k + 1) ∧ I 11 k = R (29 + 5 * k + 2) ∧ I 12 k = R (29 + 5 * k + 3) ∧ I 13 k = R (29 + 5 * k + 4) := rc
  have ry : ∀ k, k < 10 → 0 ≤ I 10 k ∧ I 10 k < 65536 := ry
  have hW0 := hW
  obtain ⟨w0, w1, w2, w3, w4, wd, wc⟩ := hW
  show G 0 [some (.ref 0), some (.int (i3 (x)))] [] (wI B I)
  refine q_aload_n hG rfl rfl ?_
  refine q_getR hG rfl (by assumption) (by assumption) ?_
  refine q_getR hG rfl (by assumption) (by assumption) ?_
  refine q_getR hG rfl (by assumption) (by assumption) ?_
  refine q_aload_n hG rfl rfl ?_
  refine q_iload_n hG rfl rfl ?_
  refine q_callV6 hG rfl rfl rfl (by assumption) (s_X_ckPos hX0 hR0 hW0 hq hv (fun p hf => ?_) (fun hf => ?_))
  · have hpl := hf.1
    obtain ⟨v1, v2, v3, v4, v5⟩ := rc p (by omega)
    obtain ⟨y1, y2, y3, y4, y5, y6, y7⟩ := wc p (by omega)
    refine q_ialdv (v := R (29 + 5 * p + 4)) hG rfl (by assumption) ⟨by omega, by omega, by omega⟩ (v5) ?_
    refine q_iret0 hG rfl rfl ?_
    exact p1 p hf
  · exact pE hf
theorem s_X_isSafe {d : Nat} {B : HP} {I : IM} {Post : Out → HP → Prop} (hX : LX B) {R : RW} (hR : RepC I 1 R) {q : Int} (hW : WfR q R) (hq : q ≤ 2000000000) {x : Int} (hv : r32 x) (pE : noR R x → Post (.inr 3) (wI (junk B 6) I)) (p1 : ∀ p : Nat, fdR R x p → alR R p → Post (.inl (some (.int (i3 1)))) (wI B I)) (p0 : ∀ p : Nat, fdR R x p → ¬ alR R p → Post (.inl (some (.int (i3 0)))) (wI B I)) : Sp (d + 3) k_X8_isSafe [.ref 0, .int (i3 (x))] (wI B I) Post := by
  refine Sp_intro md_X8_isSafe rfl rfl (fun G hG => ?_)
  have hX0 := hX
  obtain ⟨x0, x1, x2, x3, x4, x5, x6, x7, x8, x9, x10, x11, x12, x13, x14, x15, x16, x17, x18, x19, x20, x21, x22, x23, x24, x25, x26, x27, x28, x29, x30, x31, x32, x33, x34, x35, x36, x37, x38, x39, x40, x41, x42, x43, x44⟩ := hX
  obtain ⟨d1, d2, d3, d4, hF, hBd, hCo⟩ := x10
  obtain ⟨f1, f2, f3, f4, f5⟩ := hF
  obtain ⟨g1, g2, g3, g4, g5⟩ := hBd
  obtain ⟨c1, c2, c3, c4, c5, c6, c7, c8, c9, c10, c11⟩ := hCo
  obtain ⟨t1, t2, t3, t4, t5⟩ := x12
  have hR0 := hR
  obtain ⟨r0, r1, r2, r3, r4, rd, rc, ry⟩ := hR
  have r1 : I 8 0 = R 1 := r1
  have r2 : I 8 1 = R 2 := r2
  have rd : ∀ k, k < 6 → I 3 k = R (5 + 4 * k) ∧ I 4 k = R (5 + 4 * k + 1) ∧ I 6 k = R (5 + 4 * k + 2) ∧ I 7 k = R (5 + 4 * k + 3) := rd
  have rc : ∀ k : Nat, (k : Int) < R 1 → I 9 k = R (29 + 5 * k) ∧ I 10 k = R (29 + 5 * k + 1) ∧ I 11 k = R (29 + 5 * k + 2) ∧ I 12 k = R (29 + 5 * k + 3) ∧ I 13 k = R (29 + 5 * k + 4) := rc
  have ry : ∀ k, k < 10 → 0 ≤ I 10 k ∧ I 10 k < 65536 := ry
  have hW0 := hW
  obtain ⟨w0, w1, w2, w3, w4, wd, wc⟩ := hW
  show G 0 [some (.ref 0), some (.int (i3 (x)))] [] (wI B I)
  refine q_aload_n hG rfl rfl ?_
  refine q_getR hG rfl (by assumption) (by assumption) ?_
  refine q_aload_n hG rfl rfl ?_
  refine q_iload_n hG rfl rfl ?_
  refine q_callV6 hG rfl rfl rfl (by assumption) (s_X_ckPos hX0 hR0 hW0 hq hv (fun p hf => ?_) (fun hf => ?_))
  · have hpl := hf.1
    obtain ⟨v1, v2, v3, v4, v5⟩ := rc p (by omega)
    obtain ⟨y1, y2, y3, y4, y5, y6, y7⟩ := wc p (by omega)
    have hk6 : ∀ k, k < 6 → sB (I 6 k) ∧ sB (I 7 k) := fun k hk => by
      obtain ⟨-, -, u3, u4⟩ := rd k hk
      have u := (wd k hk).1
      rw [u3, u4]
      unfold sB
      omega
    have eA : alwP (I 10 p) (I 6 (I 11 p).toNat) (I 7 (I 11 p).toNat) (I 6 (I 12 p).toNat) (I 7 (I 12 p).toNat) (I 13 p) ↔ alR R p := by
      unfold alR
      obtain ⟨-, -, a3, a4⟩ := rd (R (29 + 5 * p + 2)).toNat (by omega)
      obtain ⟨-, -, b3, b4⟩ := rd (R (29 + 5 * p + 3)).toNat (by omega)
      rw [v2, v3, v4, v5, a3, a4, b3, b4]
    refine q_callV6 hG rfl rfl rfl (by assumption) (s_D_always (b := 1) (I := I) hX0.2.2.2.2.2.2.2.2.2.2.1 (by omega) (by show 0 ≤ I 11 p ∧ I 11 p < 6; omega) (by show 0 ≤ I 12 p ∧ I 12 p < 6; omega) (by show sB (I 13 p); unfold sB; omega) (by show I 10 p = 60 ∨ I 10 p = 61 ∨ I 10 p = 35; omega) hk6 (fun ha => ?_) (fun ha => ?_))
    · refine q_iret5 hG rfl rfl (by decide) ?_
      exact p1 p hf (eA.mp ha)
    · refine q_iret5 hG rfl rfl (by decide) ?_
      exact p0 p hf (fun z => ha (eA.mpr z))
  · exact pE hf
theorem s_X_isBroken {d : Nat} {B : HP} {I : IM} {Post : Out → HP → Prop} (hX : LX B) {R : RW} (hR : RepC I 1 R) {q : Int} (hW : WfR q R) (hq : q ≤ 2000000000) {x : Int} (hv : r32 x) (pE : noR R x → Post (.inr 3) (wI (junk B 6) I)) (p1 : ∀ p : Nat, fdR R x p → nvR R p → Post (.inl (some (.int (i3 1)))) (wI B I)) (p0 : ∀ p : Nat, fdR R x p → ¬ nvR R p → Post (.inl (some (.int (i3 0)))) (wI B I)) : Sp (d + 3) k_X8_isBroken [.ref 0, .int (i3 (x))] (wI B I) Post := by
  refine Sp_intro md_X8_isBroken rfl rfl (fun G hG => ?_)
  have hX0 := hX
  obtain ⟨x0, x1, x2, x3, x4, x5, x6, x7, x8, x9, x10, x11, x12, x13, x14, x15, x16, x17, x18, x19, x20, x21, x22, x23, x24, x25, x26, x27, x28, x29, x30, x31, x32, x33, x34, x35, x36, x37, x38, x39, x40, x41, x42, x43, x44⟩ := hX
  obtain ⟨d1, d2, d3, d4, hF, hBd, hCo⟩ := x10
  obtain ⟨f1, f2, f3, f4, f5⟩ := hF
  obtain ⟨g1, g2, g3, g4, g5⟩ := hBd
  obtain ⟨c1, c2, c3, c4, c5, c6, c7, c8, c9, c10, c11⟩ := hCo
  obtain ⟨t1, t2, t3, t4, t5⟩ := x12
  have hR0 := hR
  obtain ⟨r0, r1, r2, r3, r4, rd, rc, ry⟩ := hR
  have r1 : I 8 0 = R 1 := r1
  have r2 : I 8 1 = R 2 := r2
  have rd : ∀ k, k < 6 → I 3 k = R (5 + 4 * k) ∧ I 4 k = R (5 + 4 * k + 1) ∧ I 6 k = R (5 + 4 * k + 2) ∧ I 7 k = R (5 + 4 * k + 3) := rd
  have rc : ∀ k : Nat, (k : Int) < R 1 → I 9 k = R (29 + 5 * k) ∧ I 10 k = R (29 + 5 * k + 1) ∧ I 11 k = R (29 + 5 * k + 2) ∧ I 12 k = R (29 + 5 * k + 3) ∧ I 13 k = R (29 + 5 * k + 4) := rc
  have ry : ∀ k, k < 10 → 0 ≤ I 10 k ∧ I 10 k < 65536 := ry
  have hW0 := hW
  obtain ⟨w0, w1, w2, w3, w4, wd, wc⟩ := hW
  show G 0 [some (.ref 0), some (.int (i3 (x)))] [] (wI B I)
  refine q_aload_n hG rfl rfl ?_
  refine q_getR hG rfl (by assumption) (by assumption) ?_
  refine q_aload_n hG rfl rfl ?_
  refine q_iload_n hG rfl rfl ?_
  refine q_callV6 hG rfl rfl rfl (by assumption) (s_X_ckPos hX0 hR0 hW0 hq hv (fun p hf => ?_) (fun hf => ?_))
  · have hpl := hf.1
    obtain ⟨v1, v2, v3, v4, v5⟩ := rc p (by omega)
    obtain ⟨y1, y2, y3, y4, y5, y6, y7⟩ := wc p (by omega)
    have hk6 : ∀ k, k < 6 → sB (I 6 k) ∧ sB (I 7 k) := fun k hk => by
      obtain ⟨-, -, u3, u4⟩ := rd k hk
      have u := (wd k hk).1
      rw [u3, u4]
      unfold sB
      omega
    have eA : nevP (I 10 p) (I 6 (I 11 p).toNat) (I 7 (I 11 p).toNat) (I 6 (I 12 p).toNat) (I 7 (I 12 p).toNat) (I 13 p) ↔ nvR R p := by
      unfold nvR
      obtain ⟨-, -, a3, a4⟩ := rd (R (29 + 5 * p + 2)).toNat (by omega)
      obtain ⟨-, -, b3, b4⟩ := rd (R (29 + 5 * p + 3)).toNat (by omega)
      rw [v2, v3, v4, v5, a3, a4, b3, b4]
    refine q_callV6 hG rfl rfl rfl (by assumption) (s_D_never (b := 1) (I := I) hX0.2.2.2.2.2.2.2.2.2.2.1 (by omega) (by show 0 ≤ I 11 p ∧ I 11 p < 6; omega) (by show 0 ≤ I 12 p ∧ I 12 p < 6; omega) (by show sB (I 13 p); unfold sB; omega) (by show I 10 p = 60 ∨ I 10 p = 61 ∨ I 10 p = 35; omega) hk6 (fun ha => ?_) (fun ha => ?_))
    · refine q_iret5 hG rfl rfl (by decide) ?_
      exact p1 p hf (eA.mp ha)
    · refine q_iret5 hG rfl rfl (by decide) ?_
      exact p0 p hf (fun z => ha (eA.mpr z))
  · exact pE hf
theorem s_X_isSettled {d : Nat} {B : HP} {I : IM} {Post : Out → HP → Prop} (hX : LX B) {R : RW} (hR : RepC I 1 R) {q : Int} (hW : WfR q R) (hq : q ≤ 2000000000)  (p1 : (paR R 1).2 = none → (paR R 1).1.2.2 = 0 → ∀ J : IM, (∀ a, (a ≤ 145 ∨ 150 ≤ a) → J a = I a) → Post (.inl (some (.int (i3 1)))) (wI B J)) (p0 : ¬ ((paR R 1).2 = none ∧ (paR R 1).1.2.2 = 0) → ∀ J : IM, (∀ a, (a ≤ 145 ∨ 150 ≤ a) → J a = I a) → Post (.inl (some (.int (i3 0)))) (wI B J)) : Sp (d + 5) k_X8_isSettled [.ref 0] (wI B I) Post := by
  refine Sp_intro md_X8_isSettled rfl rfl (fun G hG => ?_)
  have hX0 := hX
  obtain ⟨x0, x1, x2, x3, x4, x5, x6, x7, x8, x9, x10, x11, x12, x13, x14, x15, x16, x17, x18, x19, x20, x21, x22, x23, x24, x25, x26, x27, x28, x29, x30, x31, x32, x33, x34, x35, x36, x37, x38, x39, x40, x41, x42, x43, x44⟩ := hX
  obtain ⟨d1, d2, d3, d4, hF, hBd, hCo⟩ := x10
  obtain ⟨f1, f2, f3, f4, f5⟩ := hF
  obtain ⟨g1, g2, g3, g4, g5⟩ := hBd
  obtain ⟨c1, c2, c3, c4, c5, c6, c7, c8, c9, c10, c11⟩ := hCo
  obtain ⟨t1, t2, t3, t4, t5⟩ := x12
  have hR0 := hR
  obtain ⟨r0, r1, r2, r3, r4, rd, rc, ry⟩ := hR
  have r1 : I 8 0 = R 1 := r1
  have r2 : I 8 1 = R 2 := r2
  have rd : ∀ k, k < 6 → I 3 k = R (5 + 4 * k) ∧ I 4 k = R (5 + 4 * k + 1) ∧ I 6 k = R (5 + 4 * k + 2) ∧ I 7 k = R (5 + 4 * k + 3) := rd
  have rc : ∀ k : Nat, (k : Int) < R 1 → I 9 k = R (29 + 5 * k) ∧ I 10 k = R (29 + 5 * k + 1) ∧ I 11 k = R (29 + 5 * k + 2) ∧ I 12 k = R (29 + 5 * k + 3) ∧ I 13 k = R (29 + 5 * k + 4) := rc
  have ry : ∀ k, k < 10 → 0 ≤ I 10 k ∧ I 10 k < 65536 := ry
  have hW0 := hW
  obtain ⟨w0, w1, w2, w3, w4, wd, wc⟩ := hW
  show G 0 [some (.ref 0)] [] (wI B I)
  refine q_aload_n hG rfl rfl ?_
  refine q_callV6 hG rfl rfl rfl (by assumption) (s_X_trialPass hX0 hR0 hW0 hq (fun h6 J hs => ?_) (fun p h6 J hs => ?_))
  · have pb := pa_bd hW0 h6
    refine q_if_ne hG rfl ⟨by omega, by omega⟩ (fun hc4 => ?_) (fun hc4 => ?_)
    · refine q_iconst (v := 0) hG rfl rfl ?_
      refine q_iret5 hG rfl rfl (by decide) ?_
      first
      | exact p0 (fun z => by have := z.2; omega) J hs
      | exact p0 (fun z => by rw [h6] at z; cases z.1) J hs
    · refine q_iconst (v := 1) hG rfl rfl ?_
      refine q_goto hG rfl ?_
      refine q_iret5 hG rfl rfl (by decide) ?_
      exact p1 h6 (by omega) J hs
  · refine q_if_ne hG rfl ⟨by omega, by omega⟩ (fun _ => ?_) (fun q => absurd (by decide) q)
    refine q_iconst (v := 0) hG rfl rfl ?_
    refine q_iret5 hG rfl rfl (by decide) ?_
    first
    | exact p0 (fun z => by have := z.2; omega) J hs
    | exact p0 (fun z => by rw [h6] at z; cases z.1) J hs
theorem s_X_wouldChange {d : Nat} {B : HP} {I : IM} {Post : Out → HP → Prop} (hX : LX B) {R : RW} (hR : RepC I 1 R) {q : Int} (hW : WfR q R) (hq : q ≤ 2000000000)  (p1 : (paR R 1).2 = none → ∀ J : IM, (∀ a, (a ≤ 145 ∨ 150 ≤ a) → J a = I a) → Post (.inl (some (.int (i3 ((paR R 1).1.2.2))))) (wI B J)) (pE : ∀ p : Nat, (paR R 1).2 = some p → ∀ J : IM, (∀ a, (a ≤ 145 ∨ 150 ≤ a) → J a = I a) → Post (.inr 3) (wI (junk B 6) J)) : Sp (d + 5) k_X8_wouldChange [.ref 0] (wI B I) Post := by
  refine Sp_intro md_X8_wouldChange rfl rfl (fun G hG => ?_)
  have hX0 := hX
  obtain ⟨x0, x1, x2, x3, x4, x5, x6, x7, x8, x9, x10, x11, x12, x13, x14, x15, x16, x17, x18, x19, x20, x21, x22, x23, x24, x25, x26, x27, x28, x29, x30, x31, x32, x33, x34, x35, x36, x37, x38, x39, x40, x41, x42, x43, x44⟩ := hX
  obtain ⟨d1, d2, d3, d4, hF, hBd, hCo⟩ := x10
  obtain ⟨f1, f2, f3, f4, f5⟩ := hF
  obtain ⟨g1, g2, g3, g4, g5⟩ := hBd
  obtain ⟨c1, c2, c3, c4, c5, c6, c7, c8, c9, c10, c11⟩ := hCo
  obtain ⟨t1, t2, t3, t4, t5⟩ := x12
  have hR0 := hR
  obtain ⟨r0, r1, r2, r3, r4, rd, rc, ry⟩ := hR
  have r1 : I 8 0 = R 1 := r1
  have r2 : I 8 1 = R 2 := r2
  have rd : ∀ k, k < 6 → I 3 k = R (5 + 4 * k) ∧ I 4 k = R (5 + 4 * k + 1) ∧ I 6 k = R (5 + 4 * k + 2) ∧ I 7 k = R (5 + 4 * k + 3) := rd
  have rc : ∀ k : Nat, (k : Int) < R 1 → I 9 k = R (29 + 5 * k) ∧ I 10 k = R (29 + 5 * k + 1) ∧ I 11 k = R (29 + 5 * k + 2) ∧ I 12 k = R (29 + 5 * k + 3) ∧ I 13 k = R (29 + 5 * k + 4) := rc
  have ry : ∀ k, k < 10 → 0 ≤ I 10 k ∧ I 10 k < 65536 := ry
  have hW0 := hW
  obtain ⟨w0, w1, w2, w3, w4, wd, wc⟩ := hW
  show G 0 [some (.ref 0), none] [] (wI B I)
  refine q_aload_n hG rfl rfl ?_
  refine q_callV6 hG rfl rfl rfl (by assumption) (s_X_trialPass hX0 hR0 hW0 hq (fun h6 J hs => ?_) (fun p h6 J hs => ?_))
  · have pb := pa_bd hW0 h6
    refine q_istore_n hG rfl rfl ?_
    refine q_iload_n hG rfl rfl ?_
    refine q_iconst (v := -1) hG rfl rfl ?_
    refine q_icmp_ne hG rfl ⟨by omega, by omega⟩ ⟨by omega, by omega⟩ (fun hc7 => ?_) (fun hc7 => absurd (by omega) hc7)
    refine q_iload_n hG rfl rfl ?_
    refine q_iret0 hG rfl rfl ?_
    exact p1 h6 J hs
  · refine q_istore_n hG rfl rfl ?_
    refine q_iload_n hG rfl rfl ?_
    refine q_iconst (v := -1) hG rfl rfl ?_
    refine q_icmp_ne hG rfl ⟨by omega, by omega⟩ ⟨by omega, by omega⟩ (fun q => absurd q (by decide)) (fun _ => ?_)
    refine q_throw hG rfl ?_
    exact pE p h6 J hs
theorem s_X_doorByWidth {d : Nat} {B : HP} {I : IM} {Post : Out → HP → Prop} (hX : LX B) {R : RW} (hR : RepC I 1 R) {q : Int} (hW : WfR q R) (hq : q ≤ 2000000000) {x : Int} (hv : r32 x) (pE : (∀ q, q < (R 0).toNat → ¬ dwR R q = x) → Post (.inr 3) (wI (junk B 6) I)) (p1 : ∀ p : Nat, fst (fun q => dwR R q = x) (R 0).toNat p → Post (.inl (some (.int (i3 (p : Int))))) (wI B I)) : Sp (d + 6) k_X8_doorByWidth [.ref 0, .int (i3 (x))] (wI B I) Post := by
  refine Sp_intro md_X8_doorByWidth rfl rfl (fun G hG => ?_)
  have hX0 := hX
  obtain ⟨x0, x1, x2, x3, x4, x5, x6, x7, x8, x9, x10, x11, x12, x13, x14, x15, x16, x17, x18, x19, x20, x21, x22, x23, x24, x25, x26, x27, x28, x29, x30, x31, x32, x33, x34, x35, x36, x37, x38, x39, x40, x41, x42, x43, x44⟩ := hX
  obtain ⟨d1, d2, d3, d4, hF, hBd, hCo⟩ := x10
  obtain ⟨f1, f2, f3, f4, f5⟩ := hF
  obtain ⟨g1, g2, g3, g4, g5⟩ := hBd
  obtain ⟨c1, c2, c3, c4, c5, c6, c7, c8, c9, c10, c11⟩ := hCo
  obtain ⟨t1, t2, t3, t4, t5⟩ := x12
  have hR0 := hR
  obtain ⟨r0, r1, r2, r3, r4, rd, rc, ry⟩ := hR
  have r1 : I 8 0 = R 1 := r1
  have r2 : I 8 1 = R 2 := r2
  have rd : ∀ k, k < 6 → I 3 k = R (5 + 4 * k) ∧ I 4 k = R (5 + 4 * k + 1) ∧ I 6 k = R (5 + 4 * k + 2) ∧ I 7 k = R (5 + 4 * k + 3) := rd
  have rc : ∀ k : Nat, (k : Int) < R 1 → I 9 k = R (29 + 5 * k) ∧ I 10 k = R (29 + 5 * k + 1) ∧ I 11 k = R (29 + 5 * k + 2) ∧ I 12 k = R (29 + 5 * k + 3) ∧ I 13 k = R (29 + 5 * k + 4) := rc
  have ry : ∀ k, k < 10 → 0 ≤ I 10 k ∧ I 10 k < 65536 := ry
  have hW0 := hW
  obtain ⟨w0, w1, w2, w3, w4, wd, wc⟩ := hW
  have rs : ∀ k : Nat, (k : Int) < I 8 0 → r32 (I 11 k) ∧ r32 (I 12 k) := fun k hk => by
    rw [r1] at hk
    obtain ⟨-, -, e2, e3, -⟩ := rc k hk
    obtain ⟨-, -, v3, v4, -⟩ := wc k hk
    rw [e2, e3]
    exact ⟨⟨by omega, by omega⟩, ⟨by omega, by omega⟩⟩
  have hk6 : ∀ k, k < 6 → sB (I 6 k) ∧ sB (I 7 k) := fun k hk => by
    obtain ⟨-, -, u3, u4⟩ := rd k hk
    have u := (wd k hk).1
    rw [u3, u4]
    unfold sB
    omega
  show G 0 [some (.ref 0), some (.int (i3 (x))), none] [] (wI B I)
  refine q_aload_n hG rfl rfl ?_
  refine q_getR hG rfl (by assumption) (by assumption) ?_
  refine q_iload_n hG rfl rfl ?_
  refine q_callV6 hG rfl rfl rfl (by assumption) (s_D_at (b := 1) (I := I) hX0.2.2.2.2.2.2.2.2.2.2.1 hv (by rw [r0]; exact w0) (by show 0 ≤ I 8 0 ∧ I 8 0 ≤ 10; rw [r1]; exact w1) hk6 rs (fun p hf => ?_) (fun hf => ?_))
  · rw [r0] at hf
    have hf := fst_c (Q := fun q => dwR R q = x) (fun k hk => by have e := rep_dw hR0 w0.2 k (by omega); rw [r0] at e; rw [e]) hf
    have hpl := hf.1
    refine q_istore_n hG rfl rfl ?_
    refine q_iload_n hG rfl rfl ?_
    refine q_iconst (v := -1) hG rfl rfl ?_
    refine q_icmp_ne hG rfl ⟨by omega, by omega⟩ ⟨by omega, by omega⟩ (fun hc11 => ?_) (fun hc11 => absurd (by omega) hc11)
    refine q_iload_n hG rfl rfl ?_
    refine q_iret0 hG rfl rfl ?_
    exact p1 p hf
  · rw [r0] at hf
    refine q_istore_n hG rfl rfl ?_
    refine q_iload_n hG rfl rfl ?_
    refine q_iconst (v := -1) hG rfl rfl ?_
    refine q_icmp_ne hG rfl ⟨by omega, by omega⟩ ⟨by omega, by omega⟩ (fun q => absurd q (by decide)) (fun _ => ?_)
    refine q_throw hG rfl ?_
    exact pE (fun k hk z => hf k hk (by have e := rep_dw hR0 w0.2 k (by omega); rw [r0] at e; rw [e]; exact z))
theorem s_X_constraintByGap {d : Nat} {B : HP} {I : IM} {Post : Out → HP → Prop} (hX : LX B) {R : RW} (hR : RepC I 1 R) {q : Int} (hW : WfR q R) (hq : q ≤ 2000000000) {x : Int} (hv : r32 x) (pE : (∀ q, q < (R 1).toNat → ¬ cgR R q = x) → Post (.inr 3) (wI (junk B 6) I)) (p1 : ∀ p : Nat, fst (fun q => cgR R q = x) (R 1).toNat p → Post (.inl (some (.int (i3 (R (29 + 5 * p)))))) (wI B I)) : Sp (d + 4) k_X8_constraintByGap [.ref 0, .int (i3 (x))] (wI B I) Post := by
  refine Sp_intro md_X8_constraintByGap rfl rfl (fun G hG => ?_)
  have hX0 := hX
  obtain ⟨x0, x1, x2, x3, x4, x5, x6, x7, x8, x9, x10, x11, x12, x13, x14, x15, x16, x17, x18, x19, x20, x21, x22, x23, x24, x25, x26, x27, x28, x29, x30, x31, x32, x33, x34, x35, x36, x37, x38, x39, x40, x41, x42, x43, x44⟩ := hX
  obtain ⟨d1, d2, d3, d4, hF, hBd, hCo⟩ := x10
  obtain ⟨f1, f2, f3, f4, f5⟩ := hF
  obtain ⟨g1, g2, g3, g4, g5⟩ := hBd
  obtain ⟨c1, c2, c3, c4, c5, c6, c7, c8, c9, c10, c11⟩ := hCo
  obtain ⟨t1, t2, t3, t4, t5⟩ := x12
  have hR0 := hR
  obtain ⟨r0, r1, r2, r3, r4, rd, rc, ry⟩ := hR
  have r1 : I 8 0 = R 1 := r1
  have r2 : I 8 1 = R 2 := r2
  have rd : ∀ k, k < 6 → I 3 k = R (5 + 4 * k) ∧ I 4 k = R (5 + 4 * k + 1) ∧ I 6 k = R (5 + 4 * k + 2) ∧ I 7 k = R (5 + 4 * k + 3) := rd
  have rc : ∀ k : Nat, (k : Int) < R 1 → I 9 k = R (29 + 5 * k) ∧ I 10 k = R (29 + 5 * k + 1) ∧ I 11 k = R (29 + 5 * k + 2) ∧ I 12 k = R (29 + 5 * k + 3) ∧ I 13 k = R (29 + 5 * k + 4) := rc
  have ry : ∀ k, k < 10 → 0 ≤ I 10 k ∧ I 10 k < 65536 := ry
  have hW0 := hW
  obtain ⟨w0, w1, w2, w3, w4, wd, wc⟩ := hW
  have rs : ∀ k : Nat, (k : Int) < I 8 0 → r32 (I 13 k) := fun k hk => by
    rw [r1] at hk
    have e := (rc k hk).2.2.2.2
    have v := (wc k hk).2.2.2.2.2.1
    rw [e]
    exact ⟨by omega, by omega⟩
  have ecg : ∀ q, q < (R 1).toNat → sm (fun o => if I 13 q < I 13 o ∨ (I 13 o = I 13 q ∧ o < q) then 1 else 0) (I 8 0).toNat = cgR R q := fun q hq => by
    unfold cgR
    rw [r1]
    refine sm_congr _ (fun k hk => ?_)
    rw [(rc q (by omega)).2.2.2.2, (rc k (by omega)).2.2.2.2]
  show G 0 [some (.ref 0), some (.int (i3 (x))), none] [] (wI B I)
  refine q_aload_n hG rfl rfl ?_
  refine q_getR hG rfl (by assumption) (by assumption) ?_
  refine q_getR hG rfl (by assumption) (by assumption) ?_
  refine q_iload_n hG rfl rfl ?_
  refine q_callV6 hG rfl rfl rfl (by assumption) (s_C_at (c := 8) (I := I) hX0.2.2.2.2.2.2.2.2.2.2.1.2.2.2.2.2.2 (by rw [r1]; exact w1) hv rs (fun p hf => ?_) (fun hf => ?_))
  · have hpl : p < (R 1).toNat := by rw [← r1]; exact hf.1
    have hf : fst (fun q => cgR R q = x) (R 1).toNat p := by
      rw [← r1]
      exact fst_c (fun k hk => by rw [r1] at hk; rw [← ecg k hk]) hf
    refine q_istore_n hG rfl rfl ?_
    refine q_iload_n hG rfl rfl ?_
    refine q_iconst (v := -1) hG rfl rfl ?_
    refine q_icmp_ne hG rfl ⟨by omega, by omega⟩ ⟨by omega, by omega⟩ (fun hc14 => ?_) (fun hc14 => absurd (by omega) hc14)
    refine q_aload_n hG rfl rfl ?_
    refine q_getR hG rfl (by assumption) (by assumption) ?_
    refine q_getR hG rfl (by assumption) (by assumption) ?_
    refine q_getR hG rfl (by assumption) (by assumption) ?_
    refine q_iload_n hG rfl rfl ?_
    refine q_ialdv (v := R (29 + 5 * p)) hG rfl (by assumption) ⟨by omega, by omega, by omega⟩ ((rc p (by omega)).1) ?_
    refine q_iret0 hG rfl rfl ?_
    exact p1 p hf
  · refine q_istore_n hG rfl rfl ?_
    refine q_iload_n hG rfl rfl ?_
    refine q_iconst (v := -1) hG rfl rfl ?_
    refine q_icmp_ne hG rfl ⟨by omega, by omega⟩ ⟨by omega, by omega⟩ (fun q => absurd q (by decide)) (fun _ => ?_)
    refine q_throw hG rfl ?_
    exact pE (fun k hk z => hf k (by rw [r1]; exact hk) (by rw [← ecg k hk] at z; exact z))
theorem s_X_fixedCount {d : Nat} {B : HP} {I : IM} {Post : Out → HP → Prop} (hX : LX B) {R : RW} (hR : RepC I 1 R) {q : Int} (hW : WfR q R) (hq : q ≤ 2000000000)  (p1 : Post (.inl (some (.int (i3 (fxR R))))) (wI B I)) : Sp (d + 2) k_X8_fixedCount [.ref 0] (wI B I) Post := by
  refine Sp_intro md_X8_fixedCount rfl rfl (fun G hG => ?_)
  have hX0 := hX
  obtain ⟨x0, x1, x2, x3, x4, x5, x6, x7, x8, x9, x10, x11, x12, x13, x14, x15, x16, x17, x18, x19, x20, x21, x22, x23, x24, x25, x26, x27, x28, x29, x30, x31, x32, x33, x34, x35, x36, x37, x38, x39, x40, x41, x42, x43, x44⟩ := hX
  obtain ⟨d1, d2, d3, d4, hF, hBd, hCo⟩ := x10
  obtain ⟨f1, f2, f3, f4, f5⟩ := hF
  obtain ⟨g1, g2, g3, g4, g5⟩ := hBd
  obtain ⟨c1, c2, c3, c4, c5, c6, c7, c8, c9, c10, c11⟩ := hCo
  obtain ⟨t1, t2, t3, t4, t5⟩ := x12
  have hR0 := hR
  obtain ⟨r0, r1, r2, r3, r4, rd, rc, ry⟩ := hR
  have r1 : I 8 0 = R 1 := r1
  have r2 : I 8 1 = R 2 := r2
  have rd : ∀ k, k < 6 → I 3 k = R (5 + 4 * k) ∧ I 4 k = R (5 + 4 * k + 1) ∧ I 6 k = R (5 + 4 * k + 2) ∧ I 7 k = R (5 + 4 * k + 3) := rd
  have rc : ∀ k : Nat, (k : Int) < R 1 → I 9 k = R (29 + 5 * k) ∧ I 10 k = R (29 + 5 * k + 1) ∧ I 11 k = R (29 + 5 * k + 2) ∧ I 12 k = R (29 + 5 * k + 3) ∧ I 13 k = R (29 + 5 * k + 4) := rc
  have ry : ∀ k, k < 10 → 0 ≤ I 10 k ∧ I 10 k < 65536 := ry
  have hW0 := hW
  obtain ⟨w0, w1, w2, w3, w4, wd, wc⟩ := hW
  have lp : ∀ (mz : Nat) (k : Nat), (R 0).toNat - k = mz → k ≤ (R 0).toNat → G 4 [some (.ref 0), some (.int (i3 (sm (fun k => if R (5 + 4 * k + 2) = R (5 + 4 * k + 3) then 1 else 0) k))), some (.int (i3 (k : Int)))] [] (wI B I) := by
    intro mz
    induction mz using Nat.strongRecOn with
    | ind mz ih =>
      intro k hme hk
      refine q_iload_n hG rfl rfl ?_
      refine q_aload_n hG rfl rfl ?_
      refine q_getR hG rfl (by assumption) (by assumption) ?_
      refine q_getI0v (v := R 0) hG rfl (by assumption) (r0) ?_
      refine q_icmp_ge hG rfl ⟨by omega, by omega⟩ ⟨by omega, by omega⟩ (fun hc12 => ?_) (fun hc12 => ?_)
      · refine q_iload_n hG rfl rfl ?_
        refine q_iret0 hG rfl rfl ?_
        unfold fxR at p1
        rw [show (R 0).toNat = k by omega] at p1
        exact p1
      · refine q_aload_n hG rfl rfl ?_
        refine q_getR hG rfl (by assumption) (by assumption) ?_
        refine q_getR hG rfl (by assumption) (by assumption) ?_
        refine q_iload_n hG rfl rfl ?_
        refine q_callV6 hG rfl rfl rfl (by assumption) (s_B_one (I := I) hX0.2.2.2.2.2.2.2.2.2.2.1.2.2.2.2.2.1 ⟨by omega, by omega⟩ (by show r32 (I 6 k); rw [(rd k (by omega)).2.2.1]; have u := (wd k (by omega)).1; exact ⟨by omega, by omega⟩) (by show r32 (I 7 k); rw [(rd k (by omega)).2.2.2]; have u := (wd k (by omega)).1; exact ⟨by omega, by omega⟩) (fun he => ?_) (fun he => ?_))
        · have he : I 6 k = I 7 k := he
          rw [(rd k (by omega)).2.2.1, (rd k (by omega)).2.2.2] at he
          refine q_if_eq hG rfl ⟨by omega, by omega⟩ (fun q => absurd q (by decide)) (fun _ => ?_)
          refine q_iinc (c := 1) hG rfl rfl rfl rfl ?_
          refine q_iinc (c := 1) hG rfl rfl rfl rfl ?_
          refine q_goto hG rfl ?_
          refine Eq.mp ?_ (ih _ (by omega) (k + 1) rfl (by omega))
          congr 1
          show [_, some (Value.int (i3 (sm _ k + (if R (5 + 4 * k + 2) = R (5 + 4 * k + 3) then 1 else 0)))), _] = [_, _, _]
          first
          | rw [if_pos he]; rfl
          | rw [if_neg he, Int.add_zero]; rfl
        · have he : ¬ I 6 k = I 7 k := he
          rw [(rd k (by omega)).2.2.1, (rd k (by omega)).2.2.2] at he
          refine q_if_eq hG rfl ⟨by omega, by omega⟩ (fun _ => ?_) (fun q => absurd (by decide) q)
          refine q_iinc (c := 1) hG rfl rfl rfl rfl ?_
          refine q_goto hG rfl ?_
          refine Eq.mp ?_ (ih _ (by omega) (k + 1) rfl (by omega))
          congr 1
          show [_, some (Value.int (i3 (sm _ k + (if R (5 + 4 * k + 2) = R (5 + 4 * k + 3) then 1 else 0)))), _] = [_, _, _]
          first
          | rw [if_pos he]; rfl
          | rw [if_neg he, Int.add_zero]; rfl
  show G 0 [some (.ref 0), none, none] [] (wI B I)
  refine q_iconst (v := 0) hG rfl rfl ?_
  refine q_istore_n hG rfl rfl ?_
  refine q_iconst (v := 0) hG rfl rfl ?_
  refine q_istore_n hG rfl rfl ?_
  exact lp _ 0 rfl (by omega)
theorem s_X_totalWidth {d : Nat} {B : HP} {I : IM} {Post : Out → HP → Prop} (hX : LX B) {R : RW} (hR : RepC I 1 R) {q : Int} (hW : WfR q R) (hq : q ≤ 2000000000)  (p1 : Post (.inl (some (.int (i3 (twR R))))) (wI B I)) : Sp (d + 3) k_X8_totalWidth [.ref 0] (wI B I) Post := by
  refine Sp_intro md_X8_totalWidth rfl rfl (fun G hG => ?_)
  have hX0 := hX
  obtain ⟨x0, x1, x2, x3, x4, x5, x6, x7, x8, x9, x10, x11, x12, x13, x14, x15, x16, x17, x18, x19, x20, x21, x22, x23, x24, x25, x26, x27, x28, x29, x30, x31, x32, x33, x34, x35, x36, x37, x38, x39, x40, x41, x42, x43, x44⟩ := hX
  obtain ⟨d1, d2, d3, d4, hF, hBd, hCo⟩ := x10
  obtain ⟨f1, f2, f3, f4, f5⟩ := hF
  obtain ⟨g1, g2, g3, g4, g5⟩ := hBd
  obtain ⟨c1, c2, c3, c4, c5, c6, c7, c8, c9, c10, c11⟩ := hCo
  obtain ⟨t1, t2, t3, t4, t5⟩ := x12
  have hR0 := hR
  obtain ⟨r0, r1, r2, r3, r4, rd, rc, ry⟩ := hR
  have r1 : I 8 0 = R 1 := r1
  have r2 : I 8 1 = R 2 := r2
  have rd : ∀ k, k < 6 → I 3 k = R (5 + 4 * k) ∧ I 4 k = R (5 + 4 * k + 1) ∧ I 6 k = R (5 + 4 * k + 2) ∧ I 7 k = R (5 + 4 * k + 3) := rd
  have rc : ∀ k : Nat, (k : Int) < R 1 → I 9 k = R (29 + 5 * k) ∧ I 10 k = R (29 + 5 * k + 1) ∧ I 11 k = R (29 + 5 * k + 2) ∧ I 12 k = R (29 + 5 * k + 3) ∧ I 13 k = R (29 + 5 * k + 4) := rc
  have ry : ∀ k, k < 10 → 0 ≤ I 10 k ∧ I 10 k < 65536 := ry
  have hW0 := hW
  obtain ⟨w0, w1, w2, w3, w4, wd, wc⟩ := hW
  show G 0 [some (.ref 0)] [] (wI B I)
  refine q_aload_n hG rfl rfl ?_
  refine q_getR hG rfl (by assumption) (by assumption) ?_
  refine q_getR hG rfl (by assumption) (by assumption) ?_
  refine q_aload_n hG rfl rfl ?_
  refine q_getR hG rfl (by assumption) (by assumption) ?_
  refine q_getI0v (v := R 0) hG rfl (by assumption) (r0) ?_
  refine q_callV6 hG rfl rfl rfl (by assumption) (s_B_sum (I := I) hX0.2.2.2.2.2.2.2.2.2.2.1.2.2.2.2.2.1 w0 ?_)
  rw [show sm (fun k => I 7 k - I 6 k + 1) (R 0).toNat = twR R from by
    unfold twR
    refine sm_congr _ (fun k hk => ?_)
    rw [(rd k (by omega)).2.2.2, (rd k (by omega)).2.2.1]
    rfl]
  refine q_iret0 hG rfl rfl ?_
  exact p1
theorem s_X_totalFrameWidth {d : Nat} {B : HP} {I : IM} {Post : Out → HP → Prop} (hX : LX B) {R : RW} (hR : RepC I 1 R) {q : Int} (hW : WfR q R) (hq : q ≤ 2000000000)  (p1 : Post (.inl (some (.int (i3 (tfR R))))) (wI B I)) : Sp (d + 3) k_X8_totalFrameWidth [.ref 0] (wI B I) Post := by
  refine Sp_intro md_X8_totalFrameWidth rfl rfl (fun G hG => ?_)
  have hX0 := hX
  obtain ⟨x0, x1, x2, x3, x4, x5, x6, x7, x8, x9, x10, x11, x12, x13, x14, x15, x16, x17, x18, x19, x20, x21, x22, x23, x24, x25, x26, x27, x28, x29, x30, x31, x32, x33, x34, x35, x36, x37, x38, x39, x40, x41, x42, x43, x44⟩ := hX
  obtain ⟨d1, d2, d3, d4, hF, hBd, hCo⟩ := x10
  obtain ⟨f1, f2, f3, f4, f5⟩ := hF
  obtain ⟨g1, g2, g3, g4, g5⟩ := hBd
  obtain ⟨c1, c2, c3, c4, c5, c6, c7, c8, c9, c10, c11⟩ := hCo
  obtain ⟨t1, t2, t3, t4, t5⟩ := x12
  have hR0 := hR
  obtain ⟨r0, r1, r2, r3, r4, rd, rc, ry⟩ := hR
  have r1 : I 8 0 = R 1 := r1
  have r2 : I 8 1 = R 2 := r2
  have rd : ∀ k, k < 6 → I 3 k = R (5 + 4 * k) ∧ I 4 k = R (5 + 4 * k + 1) ∧ I 6 k = R (5 + 4 * k + 2) ∧ I 7 k = R (5 + 4 * k + 3) := rd
  have rc : ∀ k : Nat, (k : Int) < R 1 → I 9 k = R (29 + 5 * k) ∧ I 10 k = R (29 + 5 * k + 1) ∧ I 11 k = R (29 + 5 * k + 2) ∧ I 12 k = R (29 + 5 * k + 3) ∧ I 13 k = R (29 + 5 * k + 4) := rc
  have ry : ∀ k, k < 10 → 0 ≤ I 10 k ∧ I 10 k < 65536 := ry
  have hW0 := hW
  obtain ⟨w0, w1, w2, w3, w4, wd, wc⟩ := hW
  show G 0 [some (.ref 0)] [] (wI B I)
  refine q_aload_n hG rfl rfl ?_
  refine q_getR hG rfl (by assumption) (by assumption) ?_
  refine q_getR hG rfl (by assumption) (by assumption) ?_
  refine q_aload_n hG rfl rfl ?_
  refine q_getR hG rfl (by assumption) (by assumption) ?_
  refine q_getI0v (v := R 0) hG rfl (by assumption) (r0) ?_
  refine q_callV6 hG rfl rfl rfl (by assumption) (s_B_sum (I := I) hX0.2.2.2.2.2.2.2.2.2.2.1.2.2.2.2.1 w0 ?_)
  rw [show sm (fun k => I 4 k - I 3 k + 1) (R 0).toNat = tfR R from by
    unfold tfR
    refine sm_congr _ (fun k hk => ?_)
    rw [(rd k (by omega)).2.1, (rd k (by omega)).1]]
  refine q_iret0 hG rfl rfl ?_
  exact p1
