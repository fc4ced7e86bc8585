/-! shares: doubles and floats -/
theorem mw_fin : ∀ a : Fin 247, ∀ b : Fin 6, (FP.ddiv (FP.i2d (Int32.ofInt (a.val : Int))) (FP.i2d (Int32.ofInt ((b.val : Int) + 1))) &&& 0x7fffffffffffffff ≤ 0x7ff0000000000000) ∧ Op.cmpValue (FP.dcmp (FP.ddiv (FP.i2d (Int32.ofInt (a.val : Int))) (FP.i2d (Int32.ofInt ((b.val : Int) + 1)))) (FP.ddiv (FP.i2d (Int32.ofInt (a.val : Int))) (FP.i2d (Int32.ofInt ((b.val : Int) + 1))))) .l = 0 := by decide +kernel
theorem fs_fin : ∀ a : Fin 7, ∀ b : Fin 6, (FP.fdiv (FP.i2f (Int32.ofInt (a.val : Int))) (FP.i2f (Int32.ofInt ((b.val : Int) + 1))) &&& 0x7fffffff ≤ 0x7f800000) ∧ (FP.f2d (FP.fdiv (FP.i2f (Int32.ofInt (a.val : Int))) (FP.i2f (Int32.ofInt ((b.val : Int) + 1)))) &&& 0x7fffffffffffffff ≤ 0x7ff0000000000000) ∧ Op.cmpValue (FP.dcmp (FP.f2d (FP.fdiv (FP.i2f (Int32.ofInt (a.val : Int))) (FP.i2f (Int32.ofInt ((b.val : Int) + 1))))) (FP.f2d (FP.fdiv (FP.i2f (Int32.ofInt (a.val : Int))) (FP.i2f (Int32.ofInt ((b.val : Int) + 1)))))) .l = 0 := by decide +kernel
def mwV (R : RW) : UInt64 := FP.ddiv (FP.i2d (i3 (twR R))) (FP.i2d (i3 (R 0)))
def fsV (R : RW) : UInt32 := FP.fdiv (FP.i2f (i3 (fxR R))) (FP.i2f (i3 (R 0)))
theorem twR_bd {q : Int} {R : RW} (hW : WfR q R) : 0 ≤ twR R ∧ twR R ≤ 246 := by
  obtain ⟨w0, -, -, -, -, wd, -⟩ := hW
  have s := sm_bd (f := wdR R) (a := 0) (b := 41) (R 0).toNat (fun k hk => by
    have d := (wd k (by omega)).1
    unfold wdR
    omega)
  unfold twR
  omega
theorem fxR_bd {q : Int} {R : RW} (hW : WfR q R) : 0 ≤ fxR R ∧ fxR R ≤ 6 := by
  obtain ⟨w0, -⟩ := hW
  have s := sm_bd (f := fun k => if R (5 + 4 * k + 2) = R (5 + 4 * k + 3) then 1 else 0) (a := 0) (b := 1) (R 0).toNat (fun k _ => by
    show 0 ≤ (if R (5 + 4 * k + 2) = R (5 + 4 * k + 3) then (1 : Int) else 0) ∧ (if R (5 + 4 * k + 2) = R (5 + 4 * k + 3) then (1 : Int) else 0) ≤ 1
    split <;> omega)
  unfold fxR
  omega
theorem mw_ok {q : Int} {R : RW} (hW : WfR q R) (h : 0 < R 0) : vf_n64 (mwV R) ∧ Op.cmpValue (FP.dcmp (mwV R) (mwV R)) .l = 0 := by
  have a := twR_bd hW
  obtain ⟨w0, -⟩ := hW
  have q := mw_fin ⟨(twR R).toNat, by omega⟩ ⟨(R 0).toNat - 1, by omega⟩
  have e1 : (((twR R).toNat : Nat) : Int) = twR R := by omega
  have e2 : ((((R 0).toNat - 1 : Nat)) : Int) + 1 = R 0 := by omega
  rw [e1, e2] at q
  exact q
theorem fs_ok {q : Int} {R : RW} (hW : WfR q R) (h : 0 < R 0) : vf_n32 (fsV R) ∧ vf_n64 (FP.f2d (fsV R)) ∧ Op.cmpValue (FP.dcmp (FP.f2d (fsV R)) (FP.f2d (fsV R))) .l = 0 := by
  have a := fxR_bd hW
  obtain ⟨w0, -⟩ := hW
  have q := fs_fin ⟨(fxR R).toNat, by omega⟩ ⟨(R 0).toNat - 1, by omega⟩
  have e1 : (((fxR R).toNat : Nat) : Int) = fxR R := by omega
  have e2 : ((((R 0).toNat - 1 : Nat)) : Int) + 1 = R 0 := by omega
  rw [e1, e2] at q
  exact q

theorem s_X_meanWidth {d : Nat} {B : HP} {I : IM} {Post : Out → HP → Prop} (hX : LX B) {R : RW} (hR : RepC I 1 R) {q : Int} (hW : WfR q R) (hq : q ≤ 2000000000)  (p1 : 0 < R 0 → Post (.inl (some (.double (mwV R)))) (wI B I)) (pE : R 0 = 0 → Post (.inr 5) (wI (junk B 6) I)) : Sp (d + 4) k_X8_meanWidth [.ref 0] (wI B I) Post := by
  refine Sp_intro md_X8_meanWidth rfl rfl (fun G hG => ?_)
  have hX0 := hX
  obtain ⟨x0, x1, x2, x3, x4, x5, x6, x7, x8, x9, x10, x11, x12, x13, x14, x15, x16, x17, x18, x19, x20, x21, x22, x23, x24, x25, x26, x27, x28, x29, x30, x31, x32, x33, x34, x35, x36, x37, x38, x39, x40, x41, x42, x43, x44⟩ := hX
  obtain ⟨d1, d2, d3, d4, hF, hBd, hCo⟩ := x10
  obtain ⟨f1, f2, f3, f4, f5⟩ := hF
  obtain ⟨g1, g2, g3, g4, g5⟩ := hBd
  obtain ⟨c1, c2, c3, c4, c5, c6, c7, c8, c9, c10, c11⟩ := hCo
  obtain ⟨t1, t2, t3, t4, t5⟩ := x12
  have hR0 := hR
  obtain ⟨r0, r1, r2, r3, r4, rd, rc, ry⟩ := hR
  have r1 : I 8 0 = R 1 := r1
  have r2 : I 8 1 = R 2 := r2
  have rd : ∀ k, k < 6 → I 3 k = R (5 + 4 * k) ∧ I 4 k = R (5 + 4 * k + 1) ∧ I 6 k = R (5 + 4 * k + 2) ∧ I 7 k = R (5 + 4 * k + 3) := rd
  have rc : ∀ k : Nat, (k : Int) < R 1 → I 9 k = R (29 + 5 * k) ∧ I 10 k = R (29 + 5 * k + 1) ∧ I 11 k = R (29 + 5 * k + 2) ∧ I 12 k = R (29 + 5 * k + 3) ∧ I 13 k = R (29 + 5 * k + 4) := rc
  have ry : ∀ k, k < 10 → 0 ≤ I 10 k ∧ I 10 k < 65536 := ry
  have hW0 := hW
  obtain ⟨w0, w1, w2, w3, w4, wd, wc⟩ := hW
  show G 0 [some (.ref 0)] [] (wI B I)
  refine q_aload_n hG rfl rfl ?_
  refine q_getR hG rfl (by assumption) (by assumption) ?_
  refine q_getI0v (v := R 0) hG rfl (by assumption) (r0) ?_
  refine q_if_ne hG rfl ⟨by omega, by omega⟩ (fun hc7 => ?_) (fun hc7 => ?_)
  · refine q_aload_n hG rfl rfl ?_
    refine q_callV6 hG rfl rfl rfl (by assumption) (s_X_totalWidth hX0 hR0 hW0 hq ?_)
    refine q_i2d hG rfl ?_
    refine q_aload_n hG rfl rfl ?_
    refine q_getR hG rfl (by assumption) (by assumption) ?_
    refine q_getI0v (v := R 0) hG rfl (by assumption) (r0) ?_
    refine q_i2d hG rfl ?_
    refine q_ddiv hG rfl (mw_ok hW0 (by omega)).1 ?_
    refine q_dret hG rfl ?_
    exact p1 (by omega)
  · refine q_throw hG rfl ?_
    exact pE (by omega)
theorem s_X_fixedShare {d : Nat} {B : HP} {I : IM} {Post : Out → HP → Prop} (hX : LX B) {R : RW} (hR : RepC I 1 R) {q : Int} (hW : WfR q R) (hq : q ≤ 2000000000)  (p1 : 0 < R 0 → Post (.inl (some (.float (fsV R)))) (wI B I)) (pE : R 0 = 0 → Post (.inr 5) (wI (junk B 6) I)) : Sp (d + 4) k_X8_fixedShare [.ref 0] (wI B I) Post := by
  refine Sp_intro md_X8_fixedShare rfl rfl (fun G hG => ?_)
  have hX0 := hX
  obtain ⟨x0, x1, x2, x3, x4, x5, x6, x7, x8, x9, x10, x11, x12, x13, x14, x15, x16, x17, x18, x19, x20, x21, x22, x23, x24, x25, x26, x27, x28, x29, x30, x31, x32, x33, x34, x35, x36, x37, x38, x39, x40, x41, x42, x43, x44⟩ := hX
  obtain ⟨d1, d2, d3, d4, hF, hBd, hCo⟩ := x10
  obtain ⟨f1, f2, f3, f4, f5⟩ := hF
  obtain ⟨g1, g2, g3, g4, g5⟩ := hBd
  obtain ⟨c1, c2, c3, c4, c5, c6, c7, c8, c9, c10, c11⟩ := hCo
  obtain ⟨t1, t2, t3, t4, t5⟩ := x12
  have hR0 := hR
  obtain ⟨r0, r1, r2, r3, r4, rd, rc, ry⟩ := hR
  have r1 : I 8 0 = R 1 := r1
  have r2 : I 8 1 = R 2 := r2
  have rd : ∀ k, k < 6 → I 3 k = R (5 + 4 * k) ∧ I 4 k = R (5 + 4 * k + 1) ∧ I 6 k = R (5 + 4 * k + 2) ∧ I 7 k = R (5 + 4 * k + 3) := rd
  have rc : ∀ k : Nat, (k : Int) < R 1 → I 9 k = R (29 + 5 * k) ∧ I 10 k = R (29 + 5 * k + 1) ∧ I 11 k = R (29 + 5 * k + 2) ∧ I 12 k = R (29 + 5 * k + 3) ∧ I 13 k = R (29 + 5 * k + 4) := rc
  have ry : ∀ k, k < 10 → 0 ≤ I 10 k ∧ I 10 k < 65536 := ry
  have hW0 := hW
  obtain ⟨w0, w1, w2, w3, w4, wd, wc⟩ := hW
  show G 0 [some (.ref 0)] [] (wI B I)
  refine q_aload_n hG rfl rfl ?_
  refine q_getR hG rfl (by assumption) (by assumption) ?_
  refine q_getI0v (v := R 0) hG rfl (by assumption) (r0) ?_
  refine q_if_ne hG rfl ⟨by omega, by omega⟩ (fun hc7 => ?_) (fun hc7 => ?_)
  · refine q_aload_n hG rfl rfl ?_
    refine q_callV6 hG rfl rfl rfl (by assumption) (s_X_fixedCount hX0 hR0 hW0 hq ?_)
    refine q_i2f hG rfl ?_
    refine q_aload_n hG rfl rfl ?_
    refine q_getR hG rfl (by assumption) (by assumption) ?_
    refine q_getI0v (v := R 0) hG rfl (by assumption) (r0) ?_
    refine q_i2f hG rfl ?_
    refine q_fdiv hG rfl (fs_ok hW0 (by omega)).1 ?_
    refine q_fret hG rfl ?_
    exact p1 (by omega)
  · refine q_throw hG rfl ?_
    exact pE (by omega)
