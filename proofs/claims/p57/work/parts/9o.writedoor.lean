/-! what is written -/
def doA (R : RW) (x : Nat) : List Int := decL x ++ [91] ++ decL (R (5 + 4 * x + 2)).toNat
def doB (R : RW) (x : Nat) : List Int := if R (5 + 4 * x + 2) = R (5 + 4 * x + 3) then doA R x else doA R x ++ [46, 46] ++ decL (R (5 + 4 * x + 3)).toNat
def doC (R : RW) (x : Nat) : List Int := doB R x ++ [93]
def doT (R : RW) (x : Nat) : List Int := if R (5 + 4 * x + 2) = R (5 + 4 * x) ∧ R (5 + 4 * x + 3) = R (5 + 4 * x + 1) then doC R x else doC R x ++ [42]
theorem doA_len {q : Int} {R : RW} (hW : WfR q R) {x : Nat} (hx : x < 6) : (doA R x).length ≤ 4 := by
  obtain ⟨-, -, -, -, -, wd, -⟩ := hW
  have d := (wd x hx).1
  have a := decL_le 0 x (by omega)
  have b := decL_le 1 (R (5 + 4 * x + 2)).toNat (by omega)
  unfold doA
  rw [List.length_append, List.length_append]
  show (decL x).length + 1 + _ ≤ 4
  omega
theorem doB_len {q : Int} {R : RW} (hW : WfR q R) {x : Nat} (hx : x < 6) : (doB R x).length ≤ 8 := by
  have a := doA_len hW hx
  obtain ⟨-, -, -, -, -, wd, -⟩ := hW
  have d := (wd x hx).1
  have b := decL_le 1 (R (5 + 4 * x + 3)).toNat (by omega)
  unfold doB
  split
  · omega
  · rw [List.length_append, List.length_append]
    show (doA R x).length + 2 + _ ≤ 8
    omega
def ruA (R : RW) (p : Nat) : List Int := decL (R (29 + 5 * p)).toNat ++ [58] ++ decL (R (29 + 5 * p + 2)).toNat ++ [R (29 + 5 * p + 1)] ++ decL (R (29 + 5 * p + 3)).toNat
def ruT (R : RW) (p : Nat) : List Int := if R (29 + 5 * p + 4) = 0 then ruA R p else ruA R p ++ [43] ++ decL (R (29 + 5 * p + 4)).toNat
theorem sbT.frm {I J : IM} {s v : Nat} (hf : ∀ a, a ≠ s → a ≠ v → J a = I a) {B : HP} (hs : s < BIG) (hv : v < BIG) (h : kC B I) : kC B J := h.row (fun a ha => hf a (by omega) (by omega))

theorem df_0 (a b c d : Int) : df a b + df c d ≤ 0 ↔ a = b ∧ c = d := by
  unfold df
  split <;> split <;> omega
theorem df_r (a b c d : Int) : 0 ≤ df a b + df c d ∧ df a b + df c d ≤ 2 := by
  unfold df
  split <;> split <;> omega
theorem s_X_writeDoor {d : Nat} {B : HP} {I : IM} {Post : Out → HP → Prop} (hX : LX B) {R : RW} (hR : RepC I 1 R) {q : Int} (hW : WfR q R) (hq : q ≤ 2000000000) {x : Int} (hv : r32 x) {l : List Int} (hl : sbT I 158 159 l) (hl16 : l.length ≤ 16) (hk9 : kC B I) (hs9 : kS B I 0 [46, 46]) (pE : ¬ (0 ≤ x ∧ x < R 0) → Post (.inr 2) (wI (junk B 6) I)) (p1 : 0 ≤ x ∧ x < R 0 → ∀ J : IM, sbT J 158 159 (doT R x.toNat) → (∀ a, a ≠ 158 → a ≠ 159 → J a = I a) → Post (.inl (some (.int (i3 ((doT R x.toNat).length : Int))))) (wI B J)) : Sp (d + 6) k_X8_writeDoor [.ref 0, .int (i3 (x))] (wI B I) Post := by
  refine Sp_intro md_X8_writeDoor rfl rfl (fun G hG => ?_)
  have hX0 := hX
  obtain ⟨x0, x1, x2, x3, x4, x5, x6, x7, x8, x9, x10, x11, x12, x13, x14, x15, x16, x17, x18, x19, x20, x21, x22, x23, x24, x25, x26, x27, x28, x29, x30, x31, x32, x33, x34, x35, x36, x37, x38, x39, x40, x41, x42, x43, x44⟩ := hX
  obtain ⟨d1, d2, d3, d4, hF, hBd, hCo⟩ := x10
  obtain ⟨f1, f2, f3, f4, f5⟩ := hF
  obtain ⟨g1, g2, g3, g4, g5⟩ := hBd
  obtain ⟨c1, c2, c3, c4, c5, c6, c7, c8, c9, c10, c11⟩ := hCo
  obtain ⟨t1, t2, t3, t4, t5⟩ := x12
  have hR0 := hR
  obtain ⟨r0, r1, r2, r3, r4, rd, rc, ry⟩ := hR
  have r1 : I 8 0 = R 1 := r1
  have r2 : I 8 1 = R 2 := r2
  have rd : ∀ k, k < 6 → I 3 k = R (5 + 4 * k) ∧ I 4 k = R (5 + 4 * k + 1) ∧ I 6 k = R (5 + 4 * k + 2) ∧ I 7 k = R (5 + 4 * k + 3) := rd
  have rc : ∀ k : Nat, (k : Int) < R 1 → I 9 k = R (29 + 5 * k) ∧ I 10 k = R (29 + 5 * k + 1) ∧ I 11 k = R (29 + 5 * k + 2) ∧ I 12 k = R (29 + 5 * k + 3) ∧ I 13 k = R (29 + 5 * k + 4) := rc
  have ry : ∀ k, k < 10 → 0 ≤ I 10 k ∧ I 10 k < 65536 := ry
  have hW0 := hW
  obtain ⟨w0, w1, w2, w3, w4, wd, wc⟩ := hW
  have hO : oS B 158 159 16 := (⟨hX0.2.2.2.2.2.2.2.2.2.2.2.2.2.2.2.2.2.2.2.2.2.2.2.2.2.2.2.2.2.2.2.2.1, hX0.2.2.2.2.2.2.2.2.2.2.2.2.2.2.2.2.2.2.2.2.2.2.2.2.2.2.2.2.2.2.2.2.2.1, hX0.2.2.2.2.2.2.2.2.2.2.2.2.2.2.2.2.2.2.2.2.2.2.2.2.2.2.2.2.2.2.2.2.2.2.1, by decide, by decide⟩ : oS B 158 159 16)
  have hb9 : (158 : Nat) < BIG := by decide
  have hb8 : (159 : Nat) < BIG := by decide
  show G 0 [some (.ref 0), some (.int (i3 (x)))] [] (wI B I)
  refine q_aload_n hG rfl rfl ?_
  refine q_iload_n hG rfl rfl ?_
  refine q_callV6 hG rfl rfl rfl (by assumption) (s_X_ckDoor hX0 hR0 hW0 hq hv (fun hx1 hx2 => ?_) (fun hx => ?_))
  · obtain ⟨xn, rfl⟩ : ∃ xn : Nat, x = (xn : Int) := ⟨x.toNat, by omega⟩
    have ex9 : (xn : Int).toNat = xn := by omega
    rw [ex9] at p1
    have d9 := (wd xn (by omega)).1
    obtain ⟨u1, u2, u3, u4⟩ := rd xn (by omega)
    have n1 := decL_le 0 xn (by omega)
    have n2 := decL_le 1 (R (5 + 4 * xn + 2)).toNat (by omega)
    have n3 := decL_le 1 (R (5 + 4 * xn + 3)).toNat (by omega)
    have nB := doB_len hW0 (x := xn) (by omega)
    have nA := doA_len hW0 (x := xn) (by omega)
    have clo : R (5 + 4 * xn + 2) = ((R (5 + 4 * xn + 2)).toNat : Int) := by omega
    have chi : R (5 + 4 * xn + 3) = ((R (5 + 4 * xn + 3)).toNat : Int) := by omega
    refine q_aload_n hG rfl rfl ?_
    refine q_getR hG rfl (by assumption) (by assumption) ?_
    refine q_iconst (v := 0) hG rfl rfl ?_
    refine q_callV6 hG rfl rfl rfl (by assumption) (s_J_set hO hl hl16 (fun J0 a0 b0 => ?_))
    have f0 : ∀ a, a ≠ 158 → a ≠ 159 → J0 a = I a := fun a h1 h2 => (b0 a h1).trans rfl
    refine q_aload_n hG rfl rfl ?_
    refine q_getR hG rfl (by assumption) (by assumption) ?_
    refine q_iload_n hG rfl rfl ?_
    refine q_callV6 hG rfl rfl rfl (by assumption) (s_J_num hO a0 (by omega) (sbT.frm f0 hb9 hb8 hk9) hb8 (by show (0 : Nat) + _ ≤ 16; omega) (fun J1 a1 b1 => ?_))
    have f1 : ∀ a, a ≠ 158 → a ≠ 159 → J1 a = I a := fun a h1 h2 => (b1 a h1 h2).trans (f0 a h1 h2)
    have a1 : sbT J1 158 159 (decL xn) := a1
    refine q_bipush (v := 91) hG rfl rfl ?_
    refine q_callV6 hG rfl rfl rfl (by assumption) (s_J_app hO a1 (by omega) (by omega) (fun J2 a2 b2 => ?_))
    have f2 : ∀ a, a ≠ 158 → a ≠ 159 → J2 a = I a := fun a h1 h2 => (b2 a h1 h2).trans (f1 a h1 h2)
    have a2 : sbT J2 158 159 (decL xn ++ [91]) := a2
    refine q_aload_n hG rfl rfl ?_
    refine q_getR hG rfl (by assumption) (by assumption) ?_
    refine q_getR hG rfl (by assumption) (by assumption) ?_
    refine q_getR hG rfl (by assumption) (by assumption) ?_
    refine q_iload_n hG rfl rfl ?_
    refine q_ialdv (v := R (5 + 4 * xn + 2)) hG rfl (by assumption) ⟨by omega, by omega, by omega⟩ (by rw [f2 6 (by decide) (by decide), ex9]; exact u3) ?_
    rw [clo]
    refine q_callV6 hG rfl rfl rfl (by assumption) (s_J_num hO a2 (by omega) (sbT.frm f2 hb9 hb8 hk9) hb8 (by simp only [List.length_append, List.length_cons, List.length_nil]; omega) (fun J3 a3 b3 => ?_))
    have f3 : ∀ a, a ≠ 158 → a ≠ 159 → J3 a = I a := fun a h1 h2 => (b3 a h1 h2).trans (f2 a h1 h2)
    have a3 : sbT J3 158 159 (doA R xn) := a3
    refine q_pop hG rfl rfl ?_
    refine q_aload_n hG rfl rfl ?_
    refine q_getR hG rfl (by assumption) (by assumption) ?_
    refine q_getR hG rfl (by assumption) (by assumption) ?_
    refine q_iload_n hG rfl rfl ?_
    refine q_callV6 hG rfl rfl rfl (by assumption) (s_B_one (I := J3) hX0.2.2.2.2.2.2.2.2.2.2.1.2.2.2.2.2.1 ⟨by omega, by omega⟩ (by show r32 (J3 6 (xn : Int).toNat); rw [f3 6 (by decide) (by decide), ex9, u3]; exact ⟨by omega, by omega⟩) (by show r32 (J3 7 (xn : Int).toNat); rw [f3 7 (by decide) (by decide), ex9, u4]; exact ⟨by omega, by omega⟩) (fun he => ?_) (fun he => ?_))
    · have he : J3 6 (xn : Int).toNat = J3 7 (xn : Int).toNat := he
      rw [f3 6 (by decide) (by decide), f3 7 (by decide) (by decide), ex9, u3, u4] at he
      refine q_if_ne hG rfl ⟨by omega, by omega⟩ (fun _ => ?_) (fun q => absurd (by decide) q)
      have aB : sbT J3 158 159 (doB R xn) := by unfold doB; rw [if_pos he]; exact a3
      have fB := f3
      refine q_aload_n hG rfl rfl ?_
      refine q_getR hG rfl (by assumption) (by assumption) ?_
      refine q_bipush (v := 93) hG rfl rfl ?_
      refine q_callV6 hG rfl rfl rfl (by assumption) (s_J_app hO aB (by omega) (by omega) (fun J6 a6 b6 => ?_))
      have f6 : ∀ a, a ≠ 158 → a ≠ 159 → J6 a = I a := fun a h1 h2 => (b6 a h1 h2).trans (fB a h1 h2)
      have a6 : sbT J6 158 159 (doC R xn) := a6
      have nC : (doC R xn).length ≤ 9 := by unfold doC; rw [List.length_append]; show (doB R xn).length + 1 ≤ 9; omega
      refine q_pop hG rfl rfl ?_
      refine q_aload_n hG rfl rfl ?_
      refine q_getR hG rfl (by assumption) (by assumption) ?_
      refine q_iload_n hG rfl rfl ?_
      refine q_callV6 hG rfl rfl rfl (by assumption) (s_D_diff (b := 1) (I := J6) hX0.2.2.2.2.2.2.2.2.2.2.1 ⟨by omega, by omega⟩ (by unfold rD; rw [f6 3 (by decide) (by decide), f6 4 (by decide) (by decide), f6 6 (by decide) (by decide), f6 7 (by decide) (by decide), ex9, u1, u2, u3, u4]; exact ⟨⟨by omega, by omega⟩, ⟨by omega, by omega⟩, ⟨by omega, by omega⟩, ⟨by omega, by omega⟩⟩) ?_)
      rw [show df (J6 (1 + 5) (xn : Int).toNat) (J6 (1 + 2) (xn : Int).toNat) + df (J6 (1 + 6) (xn : Int).toNat) (J6 (1 + 3) (xn : Int).toNat) = df (R (5 + 4 * xn + 2)) (R (5 + 4 * xn)) + df (R (5 + 4 * xn + 3)) (R (5 + 4 * xn + 1)) from by show df (J6 6 _) (J6 3 _) + df (J6 7 _) (J6 4 _) = _; rw [f6 3 (by decide) (by decide), f6 4 (by decide) (by decide), f6 6 (by decide) (by decide), f6 7 (by decide) (by decide), ex9, u1, u2, u3, u4]]
      have hdf : df (R (5 + 4 * xn + 2)) (R (5 + 4 * xn)) + df (R (5 + 4 * xn + 3)) (R (5 + 4 * xn + 1)) ≤ 0 ↔ R (5 + 4 * xn + 2) = R (5 + 4 * xn) ∧ R (5 + 4 * xn + 3) = R (5 + 4 * xn + 1) := df_0 _ _ _ _
      have hdr := df_r (R (5 + 4 * xn + 2)) (R (5 + 4 * xn)) (R (5 + 4 * xn + 3)) (R (5 + 4 * xn + 1))
      refine q_if_le hG rfl ⟨by omega, by omega⟩ (fun hc100 => ?_) (fun hc100 => ?_)
      · refine q_aload_n hG rfl rfl ?_
        refine q_getR hG rfl (by assumption) (by assumption) ?_
        refine q_callV6 hG rfl rfl rfl (by assumption) (s_J_len hO.1 (z := ((doT R xn).length : Int)) ?_ ?_)
        · rw [show doT R xn = doC R xn by unfold doT; exact if_pos (hdf.mp (by omega))]; exact a6.2.1
        · refine q_iret0 hG rfl rfl ?_
          exact p1 ⟨hx1, hx2⟩ _ (by rw [show doT R xn = doC R xn by unfold doT; exact if_pos (hdf.mp (by omega))]; exact a6) f6
      · refine q_aload_n hG rfl rfl ?_
        refine q_getR hG rfl (by assumption) (by assumption) ?_
        refine q_bipush (v := 42) hG rfl rfl ?_
        refine q_callV6 hG rfl rfl rfl (by assumption) (s_J_app hO a6 (by omega) (by omega) (fun J7 a7 b7 => ?_))
        have f7 : ∀ a, a ≠ 158 → a ≠ 159 → J7 a = I a := fun a h1 h2 => (b7 a h1 h2).trans (f6 a h1 h2)
        refine q_pop hG rfl rfl ?_
        refine q_aload_n hG rfl rfl ?_
        refine q_getR hG rfl (by assumption) (by assumption) ?_
        refine q_callV6 hG rfl rfl rfl (by assumption) (s_J_len hO.1 (z := ((doT R xn).length : Int)) ?_ ?_)
        · rw [show doT R xn = doC R xn ++ [42] by unfold doT; exact if_neg (fun z => by have := hdf.mpr z; omega)]; exact a7.2.1
        · refine q_iret0 hG rfl rfl ?_
          exact p1 ⟨hx1, hx2⟩ _ (by rw [show doT R xn = doC R xn ++ [42] by unfold doT; exact if_neg (fun z => by have := hdf.mpr z; omega)]; exact a7) f7
    · have he : ¬ J3 6 (xn : Int).toNat = J3 7 (xn : Int).toNat := he
      rw [f3 6 (by decide) (by decide), f3 7 (by decide) (by decide), ex9, u3, u4] at he
      refine q_if_ne hG rfl ⟨by omega, by omega⟩ (fun q => absurd q (by decide)) (fun _ => ?_)
      refine q_aload_n hG rfl rfl ?_
      refine q_getR hG rfl (by assumption) (by assumption) ?_
      refine q_ldcwR hG rfl ?_
      refine q_callV6 hG rfl rfl rfl (by assumption) (s_J_str (k := 0) (hs9.row (fun a ha => f3 a (by omega) (by omega))) hO a3 hb8 hb9 (by show (doA R xn).length + 2 ≤ 16; omega) (fun J4 a4 b4 => ?_))
      have f4 : ∀ a, a ≠ 158 → a ≠ 159 → J4 a = I a := fun a h1 h2 => (b4 a h1 h2).trans (f3 a h1 h2)
      refine q_aload_n hG rfl rfl ?_
      refine q_getR hG rfl (by assumption) (by assumption) ?_
      refine q_getR hG rfl (by assumption) (by assumption) ?_
      refine q_getR hG rfl (by assumption) (by assumption) ?_
      refine q_iload_n hG rfl rfl ?_
      refine q_ialdv (v := R (5 + 4 * xn + 3)) hG rfl (by assumption) ⟨by omega, by omega, by omega⟩ (by rw [f4 7 (by decide) (by decide), ex9]; exact u4) ?_
      rw [chi]
      refine q_callV6 hG rfl rfl rfl (by assumption) (s_J_num hO a4 (by omega) (sbT.frm f4 hb9 hb8 hk9) hb8 (by simp only [List.length_append, List.length_cons, List.length_nil]; omega) (fun J5 a5 b5 => ?_))
      have f5 : ∀ a, a ≠ 158 → a ≠ 159 → J5 a = I a := fun a h1 h2 => (b5 a h1 h2).trans (f4 a h1 h2)
      have a5 : sbT J5 158 159 (doA R xn ++ [46, 46] ++ decL (R (5 + 4 * xn + 3)).toNat) := a5
      refine q_pop hG rfl rfl ?_
      have aB : sbT J5 158 159 (doB R xn) := by unfold doB; rw [if_neg he]; exact a5
      have fB := f5
      refine q_aload_n hG rfl rfl ?_
      refine q_getR hG rfl (by assumption) (by assumption) ?_
      refine q_bipush (v := 93) hG rfl rfl ?_
      refine q_callV6 hG rfl rfl rfl (by assumption) (s_J_app hO aB (by omega) (by omega) (fun J6 a6 b6 => ?_))
      have f6 : ∀ a, a ≠ 158 → a ≠ 159 → J6 a = I a := fun a h1 h2 => (b6 a h1 h2).trans (fB a h1 h2)
      have a6 : sbT J6 158 159 (doC R xn) := a6
      have nC : (doC R xn).length ≤ 9 := by unfold doC; rw [List.length_append]; show (doB R xn).length + 1 ≤ 9; omega
      refine q_pop hG rfl rfl ?_
      refine q_aload_n hG rfl rfl ?_
      refine q_getR hG rfl (by assumption) (by assumption) ?_
      refine q_iload_n hG rfl rfl ?_
      refine q_callV6 hG rfl rfl rfl (by assumption) (s_D_diff (b := 1) (I := J6) hX0.2.2.2.2.2.2.2.2.2.2.1 ⟨by omega, by omega⟩ (by unfold rD; rw [f6 3 (by decide) (by decide), f6 4 (by decide) (by decide), f6 6 (by decide) (by decide), f6 7 (by decide) (by decide), ex9, u1, u2, u3, u4]; exact ⟨⟨by omega, by omega⟩, ⟨by omega, by omega⟩, ⟨by omega, by omega⟩, ⟨by omega, by omega⟩⟩) ?_)
      rw [show df (J6 (1 + 5) (xn : Int).toNat) (J6 (1 + 2) (xn : Int).toNat) + df (J6 (1 + 6) (xn : Int).toNat) (J6 (1 + 3) (xn : Int).toNat) = df (R (5 + 4 * xn + 2)) (R (5 + 4 * xn)) + df (R (5 + 4 * xn + 3)) (R (5 + 4 * xn + 1)) from by show df (J6 6 _) (J6 3 _) + df (J6 7 _) (J6 4 _) = _; rw [f6 3 (by decide) (by decide), f6 4 (by decide) (by decide), f6 6 (by decide) (by decide), f6 7 (by decide) (by decide), ex9, u1, u2, u3, u4]]
      have hdf : df (R (5 + 4 * xn + 2)) (R (5 + 4 * xn)) + df (R (5 + 4 * xn + 3)) (R (5 + 4 * xn + 1)) ≤ 0 ↔ R (5 + 4 * xn + 2) = R (5 + 4 * xn) ∧ R (5 + 4 * xn + 3) = R (5 + 4 * xn + 1) := df_0 _ _ _ _
      have hdr := df_r (R (5 + 4 * xn + 2)) (R (5 + 4 * xn)) (R (5 + 4 * xn + 3)) (R (5 + 4 * xn + 1))
      refine q_if_le hG rfl ⟨by omega, by omega⟩ (fun hc100 => ?_) (fun hc100 => ?_)
      · refine q_aload_n hG rfl rfl ?_
        refine q_getR hG rfl (by assumption) (by assumption) ?_
        refine q_callV6 hG rfl rfl rfl (by assumption) (s_J_len hO.1 (z := ((doT R xn).length : Int)) ?_ ?_)
        · rw [show doT R xn = doC R xn by unfold doT; exact if_pos (hdf.mp (by omega))]; exact a6.2.1
        · refine q_iret0 hG rfl rfl ?_
          exact p1 ⟨hx1, hx2⟩ _ (by rw [show doT R xn = doC R xn by unfold doT; exact if_pos (hdf.mp (by omega))]; exact a6) f6
      · refine q_aload_n hG rfl rfl ?_
        refine q_getR hG rfl (by assumption) (by assumption) ?_
        refine q_bipush (v := 42) hG rfl rfl ?_
        refine q_callV6 hG rfl rfl rfl (by assumption) (s_J_app hO a6 (by omega) (by omega) (fun J7 a7 b7 => ?_))
        have f7 : ∀ a, a ≠ 158 → a ≠ 159 → J7 a = I a := fun a h1 h2 => (b7 a h1 h2).trans (f6 a h1 h2)
        refine q_pop hG rfl rfl ?_
        refine q_aload_n hG rfl rfl ?_
        refine q_getR hG rfl (by assumption) (by assumption) ?_
        refine q_callV6 hG rfl rfl rfl (by assumption) (s_J_len hO.1 (z := ((doT R xn).length : Int)) ?_ ?_)
        · rw [show doT R xn = doC R xn ++ [42] by unfold doT; exact if_neg (fun z => by have := hdf.mpr z; omega)]; exact a7.2.1
        · refine q_iret0 hG rfl rfl ?_
          exact p1 ⟨hx1, hx2⟩ _ (by rw [show doT R xn = doC R xn ++ [42] by unfold doT; exact if_neg (fun z => by have := hdf.mpr z; omega)]; exact a7) f7
  · exact pE hx
