/-! the class: the changes as they are called -/
theorem df_b (u v : Int) : 0 ≤ df u v ∧ df u v ≤ 1 := by unfold df; split <;> omega
theorem pa_bd {q : Int} {R : RW} (hW : WfR q R) {wa : Int} (e : (paR R wa).2 = none) : 0 ≤ (paR R wa).1.2.2 ∧ (paR R wa).1.2.2 ≤ 1000 := by
  have h := (paM_ok (wa := wa) (wfR_6 hW) (R 1).toNat 0 (ptR R) (by omega) (ptR_ok hW))
  have a := h.1.2.1
  have b := h.1.2.2.1
  have w := okB_w (ptR_ok hW)
  have z : (ptR R).2.2 = 0 := rfl
  have w2 := okB_w (h.2.1 e)
  show 0 ≤ (paM (cnR R) wa (R 1).toNat 0 (ptR R)).1.2.2 ∧ (paM (cnR R) wa (R 1).toNat 0 (ptR R)).1.2.2 ≤ 1000
  omega
theorem st_bd {q : Int} {R : RW} {wa : Int} (hW : WfR q R) (h : (stR2 R wa).1 = none) : 0 ≤ (stR2 R wa).2.2 ∧ (stR2 R wa).2.2 ≤ 241 := by
  obtain ⟨a, b, c, e⟩ := stM_ok (wa := wa) (wfR_6 hW) 1000 (ptR R) 0 (ptR_ok hW) h
  have w := okB_w (ptR_ok hW)
  show 0 ≤ (stM (cnR R) wa (R 1).toNat 1000 (ptR R) 0).2.2 ∧ (stM (cnR R) wa (R 1).toNat 1000 (ptR R) 0).2.2 ≤ 241
  omega

theorem s_X_openAll {d : Nat} {B : HP} {I : IM} {Post : Out → HP → Prop} (hX : LX B) {R : RW} (hR : RepC I 1 R) {q : Int} (hW : WfR q R) (hq : q ≤ 2000000000) (p1 : ∀ J : IM, RepC J 1 (openR R) → dfr I J → Post (.inl (some (.int (i3 (unl R (openR R)))))) (wI B J)) : Sp (d + 2) k_X2_openAll [.ref 1] (wI B I) Post := by
  obtain ⟨r0, r1, r2, r3, r4, rd, rc, ry⟩ := hR
  have wd := hW.2.2.2.2.2.1
  have w0 := hW.1
  refine s_D_open (b := 1) hX.2.2.2.2.2.2.2.2.2.2.1 (by rw [r0]; exact w0) (fun k hk => ?_) (fun J j1 j2 j3 => ?_)
  · obtain ⟨u1, u2, u3, u4⟩ := rd k hk
    have u := (wd k hk).1
    unfold rD
    rw [u1, u2, u3, u4]
    exact ⟨⟨by omega, by omega⟩, ⟨by omega, by omega⟩, ⟨by omega, by omega⟩, ⟨by omega, by omega⟩⟩
  · have en : unl R (openR R) = sm (fun k => df (I (1 + 5) k) (I (1 + 2) k) + df (I (1 + 6) k) (I (1 + 3) k)) (I 1 0).toNat := by
      rw [r0]
      unfold unl
      refine sm_congr _ (fun k hk => ?_)
      have hk6 : k < 6 := by omega
      obtain ⟨a1, a2, a3, a4⟩ := openR_k R k hk6
      obtain ⟨u1, u2, u3, u4⟩ := rd k hk6
      rw [a3, a4, u1, u2, u3, u4]
    rw [← en]
    have j3 : ∀ a, a ≠ 6 → a ≠ 7 → J a = I a := j3
    refine p1 J ⟨?_, ?_, ?_, ?_, ?_, fun k hk => ?_, fun k hk => ?_, fun k hk => ?_⟩ (fun a ha => j3 a (by omega) (by omega))
    · rw [j3 _ (by decide) (by decide), openR_o _ (by omega)]; exact r0
    · rw [j3 _ (by decide) (by decide), openR_o _ (by omega)]; exact r1
    · rw [j3 _ (by decide) (by decide), openR_o _ (by omega)]; exact r2
    · rw [j3 _ (by decide) (by decide), openR_o _ (by omega)]; exact r3
    · rw [j3 _ (by decide) (by decide), openR_o _ (by omega)]; exact r4
    · obtain ⟨a1, a2, a3, a4⟩ := openR_k R k hk
      rw [a1, a2, a3, a4]
      refine ⟨?_, ?_, (j1 k hk).trans (rd k hk).1, (j2 k hk).trans (rd k hk).2.1⟩
      · rw [j3 _ (by decide) (by decide)]; exact (rd k hk).1
      · rw [j3 _ (by decide) (by decide)]; exact (rd k hk).2.1
    · rw [openR_o _ (by omega)] at hk
      rw [openR_o _ (by omega), openR_o _ (by omega), openR_o _ (by omega), openR_o _ (by omega), openR_o _ (by omega), j3 _ (by decide) (by decide), j3 _ (by decide) (by decide), j3 _ (by decide) (by decide), j3 _ (by decide) (by decide), j3 _ (by decide) (by decide)]
      exact rc k hk
    · rw [j3 _ (by decide) (by decide)]
      exact ry k hk
theorem s_P_addDoor {d : Nat} {B : HP} {I : IM} {Post : Out → HP → Prop} (hX : LX B) {R : RW} {c : Int} {h : Nat → RW} {sv : Int} {SR : RW} {eo why det cau q : Int} (hC : CSt I R c h sv SR eo why det cau) (hW : WfR q R) (hq : q ≤ 2000000000) {lo hi : Int} (hl : r32 lo) (hh : r32 hi) (pE : ¬ rngP lo hi → Post (.inr 0) (wI (junk B 6) I)) (p1 : rngP lo hi → R 0 < 6 → ∀ J : IM, CSt J (addR R lo hi) (c8 c) (psh R h) sv SR eo why det cau → (∀ a, 158 ≤ a → J a = I a) → Post (.inl (some (.int (i3 (R 0))))) (wI B J)) (p0 : rngP lo hi → R 0 = 6 → ∀ J : IM, CSt J R c h sv SR eo 1 (6) cau → (∀ a, 158 ≤ a → J a = I a) → Post (.inr 1) (wI (junk B 6) J)) : Sp (d + 4) k_X8_addDoor [.ref 0, .int (i3 (lo)), .int (i3 (hi))] (wI B I) Post := by
  refine Sp_intro md_X8_addDoor rfl rfl (fun G hG => ?_)
  have hX0 := hX
  obtain ⟨x0, x1, x2, x3, x4, x5, x6, x7, x8, x9, x10, x11, x12, x13, x14, x15, x16, x17, x18, x19, x20, x21, x22, x23, x24, x25, x26, x27, x28, x29, x30, x31, x32, x33, x34, x35, x36, x37, x38, x39, x40, x41, x42, x43, x44⟩ := hX
  have hC0 := hC
  obtain ⟨hR, ⟨nx, hH⟩, -⟩ := hC
  have hn1 : R 1 ≤ 10 := hW.2.1.2
  have kD := x10.1
  have w0 := hW.1
  have hW0 := hW
  show G 0 [some (.ref 0), some (.int (i3 (lo))), some (.int (i3 (hi))), none] [] (wI B I)
  refine q_iload_n hG rfl rfl ?_
  refine q_iload_n hG rfl rfl ?_
  refine q_callS0 hG rfl rfl rfl (s_X_ckRange hl hh (fun hr => ?_) (fun hr => ?_))
  · refine q_aload_n hG rfl rfl ?_
    refine q_getR hG rfl (by assumption) (by assumption) ?_
    refine q_aload_n hG rfl rfl ?_
    refine q_getR hG rfl (by assumption) (by assumption) ?_
    refine q_callV6 hG rfl rfl rfl (by assumption) (s_H_prepare hX0 hH hR hn1 (fun J1 q1 q2 => ?_))
    have hR1 : RepC J1 1 R := hR.row (fun a u v => q2 a (by omega))
    refine q_aload_n hG rfl rfl ?_
    refine q_iload_n hG rfl rfl ?_
    refine q_iload_n hG rfl rfl ?_
    refine q_callV6 hG rfl rfl rfl (by assumption) (s_X_enterDoor hX0 hR1 hW hq (fun h6 J2 o1 o2 => ?_) (fun h6 J2 o => ?_))
    · refine q_istore_n hG rfl rfl ?_
      refine q_iload_n hG rfl rfl ?_
      refine q_iconst (v := -1) hG rfl rfl ?_
      refine q_icmp_ne hG rfl ⟨by omega, by omega⟩ ⟨by omega, by omega⟩ (fun hc25 => ?_) (fun hc25 => absurd (by omega) hc25)
      refine q_aload_n hG rfl rfl ?_
      refine q_getR hG rfl (by assumption) (by assumption) ?_
      refine q_callV6 hG rfl rfl rfl (by assumption) (s_H_keep hX0 (nx := nx) (c := c) (h := h) ((hH.prep q2).row (fun a u v => o2 a (by omega))) (fun J3 k1 k2 k3 => ?_))
      obtain ⟨z1, z2⟩ := kept_ok hC0 hH q1 q2 o1 o2 k1 k2 k3
      refine q_iload_n hG rfl rfl ?_
      refine q_iret0 hG rfl rfl ?_
      exact p1 hr h6 J3 z1 z2
    · refine q_istore_n hG rfl rfl ?_
      refine q_iload_n hG rfl rfl ?_
      refine q_iconst (v := -1) hG rfl rfl ?_
      refine q_icmp_ne hG rfl ⟨by omega, by omega⟩ ⟨by omega, by omega⟩ (fun q => absurd q (by decide)) (fun _ => ?_)
      refine q_throw hG rfl ?_
      obtain ⟨z1, z2⟩ := rej_ok hC0 hH q2 o
      exact p0 hr h6 J2 z1 z2
  · exact pE hr
theorem s_P_setFrame {d : Nat} {B : HP} {I : IM} {Post : Out → HP → Prop} (hX : LX B) {R : RW} {c : Int} {h : Nat → RW} {sv : Int} {SR : RW} {eo why det cau q : Int} (hC : CSt I R c h sv SR eo why det cau) (hW : WfR q R) (hq : q ≤ 2000000000) {x lo hi : Int} (hv : r32 x) (hl : r32 lo) (hh : r32 hi) (pD : ¬ (0 ≤ x ∧ x < R 0) → Post (.inr 2) (wI (junk B 6) I)) (pE : 0 ≤ x ∧ x < R 0 → ¬ rngP lo hi → Post (.inr 0) (wI (junk B 6) I)) (p1 : 0 ≤ x ∧ x < R 0 → rngP lo hi → ∀ J : IM, CSt J (frmR R x.toNat lo hi) (c8 c) (psh R h) sv SR eo why det cau → (∀ a, 158 ≤ a → J a = I a) → Post (.inl (some (.int (i3 (unl R (frmR R x.toNat lo hi)))))) (wI B J)) : Sp (d + 4) k_X8_setFrame [.ref 0, .int (i3 (x)), .int (i3 (lo)), .int (i3 (hi))] (wI B I) Post := by
  refine Sp_intro md_X8_setFrame rfl rfl (fun G hG => ?_)
  have hX0 := hX
  obtain ⟨x0, x1, x2, x3, x4, x5, x6, x7, x8, x9, x10, x11, x12, x13, x14, x15, x16, x17, x18, x19, x20, x21, x22, x23, x24, x25, x26, x27, x28, x29, x30, x31, x32, x33, x34, x35, x36, x37, x38, x39, x40, x41, x42, x43, x44⟩ := hX
  have hC0 := hC
  obtain ⟨hR, ⟨nx, hH⟩, -⟩ := hC
  have hn1 : R 1 ≤ 10 := hW.2.1.2
  have kD := x10.1
  have w0 := hW.1
  have hW0 := hW
  show G 0 [some (.ref 0), some (.int (i3 (x))), some (.int (i3 (lo))), some (.int (i3 (hi))), none] [] (wI B I)
  refine q_aload_n hG rfl rfl ?_
  refine q_iload_n hG rfl rfl ?_
  refine q_callV6 hG rfl rfl rfl (by assumption) (s_X_ckDoor hX0 hR hW hq hv (fun hx1 hx2 => ?_) (fun hx => ?_))
  · refine q_iload_n hG rfl rfl ?_
    refine q_iload_n hG rfl rfl ?_
    refine q_callS0 hG rfl rfl rfl (s_X_ckRange hl hh (fun hr => ?_) (fun hr => ?_))
    · refine q_aload_n hG rfl rfl ?_
      refine q_getR hG rfl (by assumption) (by assumption) ?_
      refine q_aload_n hG rfl rfl ?_
      refine q_getR hG rfl (by assumption) (by assumption) ?_
      refine q_callV6 hG rfl rfl rfl (by assumption) (s_H_prepare hX0 hH hR hn1 (fun J1 q1 q2 => ?_))
      have hR1 : RepC J1 1 R := hR.row (fun a u v => q2 a (by omega))
      refine q_aload_n hG rfl rfl ?_
      refine q_iload_n hG rfl rfl ?_
      refine q_iload_n hG rfl rfl ?_
      refine q_iload_n hG rfl rfl ?_
      refine q_callV6 hG rfl rfl rfl (by assumption) (s_X_changeFrame hX0 hR1 hW hq ⟨hx1, hx2⟩ hr (fun J2 o1 o2 => ?_))
      refine q_istore hG rfl rfl ?_
      refine q_aload_n hG rfl rfl ?_
      refine q_getR hG rfl (by assumption) (by assumption) ?_
      refine q_callV6 hG rfl rfl rfl (by assumption) (s_H_keep hX0 (nx := nx) (c := c) (h := h) ((hH.prep q2).row (fun a u v => o2 a (by omega))) (fun J3 k1 k2 k3 => ?_))
      obtain ⟨z1, z2⟩ := kept_ok hC0 hH q1 q2 o1 o2 k1 k2 k3
      refine q_iload hG rfl rfl ?_
      refine q_iret0 hG rfl rfl ?_
      exact p1 ⟨hx1, hx2⟩ hr J3 z1 z2
    · exact pE ⟨hx1, hx2⟩ hr
  · exact pD hx
theorem s_P_narrow {d : Nat} {B : HP} {I : IM} {Post : Out → HP → Prop} (hX : LX B) {R : RW} {c : Int} {h : Nat → RW} {sv : Int} {SR : RW} {eo why det cau q : Int} (hC : CSt I R c h sv SR eo why det cau) (hW : WfR q R) (hq : q ≤ 2000000000) {x lo hi : Int} (hv : r32 x) (hl : r32 lo) (hh : r32 hi) (pD : ¬ (0 ≤ x ∧ x < R 0) → Post (.inr 2) (wI (junk B 6) I)) (pE : 0 ≤ x ∧ x < R 0 → ¬ rngP lo hi → Post (.inr 0) (wI (junk B 6) I)) (p1 : 0 ≤ x ∧ x < R 0 → rngP lo hi → (if R (5 + 4 * x.toNat + 2) < lo then lo else R (5 + 4 * x.toNat + 2)) ≤ (if hi < R (5 + 4 * x.toNat + 3) then hi else R (5 + 4 * x.toNat + 3)) → ∀ J : IM, CSt J (narR R x.toNat (if R (5 + 4 * x.toNat + 2) < lo then lo else R (5 + 4 * x.toNat + 2)) (if hi < R (5 + 4 * x.toNat + 3) then hi else R (5 + 4 * x.toNat + 3))) (c8 c) (psh R h) sv SR eo why det cau → (∀ a, 158 ≤ a → J a = I a) → Post (.inl (some (.int (i3 (df (if R (5 + 4 * x.toNat + 2) < lo then lo else R (5 + 4 * x.toNat + 2)) (R (5 + 4 * x.toNat + 2)) + df (if hi < R (5 + 4 * x.toNat + 3) then hi else R (5 + 4 * x.toNat + 3)) (R (5 + 4 * x.toNat + 3))))))) (wI B J)) (p0 : 0 ≤ x ∧ x < R 0 → rngP lo hi → (if hi < R (5 + 4 * x.toNat + 3) then hi else R (5 + 4 * x.toNat + 3)) < (if R (5 + 4 * x.toNat + 2) < lo then lo else R (5 + 4 * x.toNat + 2)) → ∀ J : IM, CSt J R c h sv SR eo 4 (R (5 + 4 * x.toNat + 2)) cau → (∀ a, 158 ≤ a → J a = I a) → Post (.inr 1) (wI (junk B 6) J)) : Sp (d + 4) k_X8_narrow [.ref 0, .int (i3 (x)), .int (i3 (lo)), .int (i3 (hi))] (wI B I) Post := by
  refine Sp_intro md_X8_narrow rfl rfl (fun G hG => ?_)
  have hX0 := hX
  obtain ⟨x0, x1, x2, x3, x4, x5, x6, x7, x8, x9, x10, x11, x12, x13, x14, x15, x16, x17, x18, x19, x20, x21, x22, x23, x24, x25, x26, x27, x28, x29, x30, x31, x32, x33, x34, x35, x36, x37, x38, x39, x40, x41, x42, x43, x44⟩ := hX
  have hC0 := hC
  obtain ⟨hR, ⟨nx, hH⟩, -⟩ := hC
  have hn1 : R 1 ≤ 10 := hW.2.1.2
  have kD := x10.1
  have w0 := hW.1
  have hW0 := hW
  show G 0 [some (.ref 0), some (.int (i3 (x))), some (.int (i3 (lo))), some (.int (i3 (hi))), none] [] (wI B I)
  refine q_aload_n hG rfl rfl ?_
  refine q_iload_n hG rfl rfl ?_
  refine q_callV6 hG rfl rfl rfl (by assumption) (s_X_ckDoor hX0 hR hW hq hv (fun hx1 hx2 => ?_) (fun hx => ?_))
  · refine q_iload_n hG rfl rfl ?_
    refine q_iload_n hG rfl rfl ?_
    refine q_callS0 hG rfl rfl rfl (s_X_ckRange hl hh (fun hr => ?_) (fun hr => ?_))
    · refine q_aload_n hG rfl rfl ?_
      refine q_getR hG rfl (by assumption) (by assumption) ?_
      refine q_aload_n hG rfl rfl ?_
      refine q_getR hG rfl (by assumption) (by assumption) ?_
      refine q_callV6 hG rfl rfl rfl (by assumption) (s_H_prepare hX0 hH hR hn1 (fun J1 q1 q2 => ?_))
      have hR1 : RepC J1 1 R := hR.row (fun a u v => q2 a (by omega))
      refine q_aload_n hG rfl rfl ?_
      refine q_iload_n hG rfl rfl ?_
      refine q_iload_n hG rfl rfl ?_
      refine q_iload_n hG rfl rfl ?_
      refine q_callV6 hG rfl rfl rfl (by assumption) (s_X_narrowDoor hX0 hR1 hW hq ⟨hx1, hx2⟩ hr (fun h6 J2 o1 o2 => ?_) (fun h6 J2 o => ?_))
      · have dd1 := df_b (if R (5 + 4 * x.toNat + 2) < lo then lo else R (5 + 4 * x.toNat + 2)) (R (5 + 4 * x.toNat + 2))
        have dd2 := df_b (if hi < R (5 + 4 * x.toNat + 3) then hi else R (5 + 4 * x.toNat + 3)) (R (5 + 4 * x.toNat + 3))
        refine q_istore hG rfl rfl ?_
        refine q_iload hG rfl rfl ?_
        refine q_iconst (v := -1) hG rfl rfl ?_
        refine q_icmp_ne hG rfl ⟨by omega, by omega⟩ ⟨by omega, by omega⟩ (fun hc33 => ?_) (fun hc33 => absurd (by omega) hc33)
        refine q_aload_n hG rfl rfl ?_
        refine q_getR hG rfl (by assumption) (by assumption) ?_
        refine q_callV6 hG rfl rfl rfl (by assumption) (s_H_keep hX0 (nx := nx) (c := c) (h := h) ((hH.prep q2).row (fun a u v => o2 a (by omega))) (fun J3 k1 k2 k3 => ?_))
        obtain ⟨z1, z2⟩ := kept_ok hC0 hH q1 q2 o1 o2 k1 k2 k3
        refine q_iload hG rfl rfl ?_
        refine q_iret0 hG rfl rfl ?_
        exact p1 ⟨hx1, hx2⟩ hr h6 J3 z1 z2
      · refine q_istore hG rfl rfl ?_
        refine q_iload hG rfl rfl ?_
        refine q_iconst (v := -1) hG rfl rfl ?_
        refine q_icmp_ne hG rfl ⟨by omega, by omega⟩ ⟨by omega, by omega⟩ (fun q => absurd q (by decide)) (fun _ => ?_)
        refine q_throw hG rfl ?_
        obtain ⟨z1, z2⟩ := rej_ok hC0 hH q2 o
        exact p0 ⟨hx1, hx2⟩ hr h6 J2 z1 z2
    · exact pE ⟨hx1, hx2⟩ hr
  · exact pD hx
theorem s_P_reset {d : Nat} {B : HP} {I : IM} {Post : Out → HP → Prop} (hX : LX B) {R : RW} {c : Int} {h : Nat → RW} {sv : Int} {SR : RW} {eo why det cau q : Int} (hC : CSt I R c h sv SR eo why det cau) (hW : WfR q R) (hq : q ≤ 2000000000)  (p1 : ∀ J : IM, CSt J (openR R) (c8 c) (psh R h) sv SR eo why det cau → (∀ a, 158 ≤ a → J a = I a) → Post (.inl (some (.int (i3 (unl R (openR R)))))) (wI B J)) : Sp (d + 4) k_X8_reset [.ref 0] (wI B I) Post := by
  refine Sp_intro md_X8_reset rfl rfl (fun G hG => ?_)
  have hX0 := hX
  obtain ⟨x0, x1, x2, x3, x4, x5, x6, x7, x8, x9, x10, x11, x12, x13, x14, x15, x16, x17, x18, x19, x20, x21, x22, x23, x24, x25, x26, x27, x28, x29, x30, x31, x32, x33, x34, x35, x36, x37, x38, x39, x40, x41, x42, x43, x44⟩ := hX
  have hC0 := hC
  obtain ⟨hR, ⟨nx, hH⟩, -⟩ := hC
  have hn1 : R 1 ≤ 10 := hW.2.1.2
  have kD := x10.1
  have w0 := hW.1
  have hW0 := hW
  show G 0 [some (.ref 0), none] [] (wI B I)
  refine q_aload_n hG rfl rfl ?_
  refine q_getR hG rfl (by assumption) (by assumption) ?_
  refine q_aload_n hG rfl rfl ?_
  refine q_getR hG rfl (by assumption) (by assumption) ?_
  refine q_callV6 hG rfl rfl rfl (by assumption) (s_H_prepare hX0 hH hR hn1 (fun J1 q1 q2 => ?_))
  have hR1 : RepC J1 1 R := hR.row (fun a u v => q2 a (by omega))
  refine q_aload_n hG rfl rfl ?_
  refine q_getR hG rfl (by assumption) (by assumption) ?_
  refine q_callV6 hG rfl rfl rfl (by assumption) (s_X_openAll hX0 hR1 hW hq (fun J2 o1 o2 => ?_))
  refine q_istore_n hG rfl rfl ?_
  refine q_aload_n hG rfl rfl ?_
  refine q_getR hG rfl (by assumption) (by assumption) ?_
  refine q_callV6 hG rfl rfl rfl (by assumption) (s_H_keep hX0 (nx := nx) (c := c) (h := h) ((hH.prep q2).row (fun a u v => o2 a (by omega))) (fun J3 k1 k2 k3 => ?_))
  obtain ⟨z1, z2⟩ := kept_ok hC0 hH q1 q2 o1 o2 k1 k2 k3
  refine q_iload_n hG rfl rfl ?_
  refine q_iret0 hG rfl rfl ?_
  exact p1 J3 z1 z2
theorem s_P_addCon {d : Nat} {B : HP} {I : IM} {Post : Out → HP → Prop} (hX : LX B) {R : RW} {c : Int} {h : Nat → RW} {sv : Int} {SR : RW} {eo why det cau q : Int} (hC : CSt I R c h sv SR eo why det cau) (hW : WfR q R) (hq : q ≤ 2000000000) {kd f s g : Int} (hx : r32 kd ∧ r32 f ∧ r32 s ∧ r32 g) (pD : ¬ ((0 ≤ f ∧ f < R 0) ∧ (0 ≤ s ∧ s < R 0)) → Post (.inr 2) (wI (junk B 6) I)) (pE : (0 ≤ f ∧ f < R 0) ∧ (0 ≤ s ∧ s < R 0) → ¬ cnP kd f s g → Post (.inr 0) (wI (junk B 6) I)) (p2 : (0 ≤ f ∧ f < R 0) ∧ (0 ≤ s ∧ s < R 0) → cnP kd f s g → R 1 = 10 → ∀ J : IM, CSt J R c h sv SR eo 2 (R 29) cau → (∀ a, 158 ≤ a → J a = I a) → Post (.inr 1) (wI (junk B 6) J)) (p3 : (0 ≤ f ∧ f < R 0) ∧ (0 ≤ s ∧ s < R 0) → cnP kd f s g → R 1 < 10 → ∀ p : Nat, fst (sameR R kd f s g) (R 1).toNat p → ∀ J : IM, CSt J R c h sv SR eo 3 (R (29 + 5 * p)) cau → (∀ a, 158 ≤ a → J a = I a) → Post (.inr 1) (wI (junk B 6) J)) (p1 : (0 ≤ f ∧ f < R 0) ∧ (0 ≤ s ∧ s < R 0) → cnP kd f s g → R 1 < 10 → (∀ k, k < (R 1).toNat → ¬ sameR R kd f s g k) → ∀ J : IM, CSt J (bndR R kd f s g) (c8 c) (psh R h) sv SR eo why det cau → (∀ a, 158 ≤ a → J a = I a) → Post (.inl (some (.int (i3 (R 2))))) (wI B J)) : Sp (d + 4) k_X8_addConstraint [.ref 0, .int (i3 (kd)), .int (i3 (f)), .int (i3 (s)), .int (i3 (g))] (wI B I) Post := by
  refine Sp_intro md_X8_addConstraint rfl rfl (fun G hG => ?_)
  have hX0 := hX
  obtain ⟨x0, x1, x2, x3, x4, x5, x6, x7, x8, x9, x10, x11, x12, x13, x14, x15, x16, x17, x18, x19, x20, x21, x22, x23, x24, x25, x26, x27, x28, x29, x30, x31, x32, x33, x34, x35, x36, x37, x38, x39, x40, x41, x42, x43, x44⟩ := hX
  have hC0 := hC
  obtain ⟨hR, ⟨nx, hH⟩, -⟩ := hC
  have hn1 : R 1 ≤ 10 := hW.2.1.2
  have kD := x10.1
  have w0 := hW.1
  have hW0 := hW
  show G 0 [some (.ref 0), some (.int (i3 (kd))), some (.int (i3 (f))), some (.int (i3 (s))), some (.int (i3 (g))), none] [] (wI B I)
  refine q_aload_n hG rfl rfl ?_
  refine q_iload_n hG rfl rfl ?_
  refine q_callV6 hG rfl rfl rfl (by assumption) (s_X_ckDoor hX0 hR hW hq hx.2.1 (fun ha1 ha2 => ?_) (fun ha => ?_))
  · refine q_aload_n hG rfl rfl ?_
    refine q_iload_n hG rfl rfl ?_
    refine q_callV6 hG rfl rfl rfl (by assumption) (s_X_ckDoor hX0 hR hW hq hx.2.2.1 (fun hb1 hb2 => ?_) (fun hb => ?_))
    · refine q_iload_n hG rfl rfl ?_
      refine q_iload_n hG rfl rfl ?_
      refine q_iload_n hG rfl rfl ?_
      refine q_iload hG rfl rfl ?_
      refine q_callS0 hG rfl rfl rfl (s_X_isCon hx (fun hr => ?_) (fun hr => ?_))
      · refine q_if_ne hG rfl ⟨by omega, by omega⟩ (fun _ => ?_) (fun q => absurd (by decide) q)
        refine q_aload_n hG rfl rfl ?_
        refine q_getR hG rfl (by assumption) (by assumption) ?_
        refine q_aload_n hG rfl rfl ?_
        refine q_getR hG rfl (by assumption) (by assumption) ?_
        refine q_callV6 hG rfl rfl rfl (by assumption) (s_H_prepare hX0 hH hR hn1 (fun J1 q1 q2 => ?_))
        have hR1 : RepC J1 1 R := hR.row (fun a u v => q2 a (by omega))
        refine q_aload_n hG rfl rfl ?_
        refine q_iload_n hG rfl rfl ?_
        refine q_iload_n hG rfl rfl ?_
        refine q_iload_n hG rfl rfl ?_
        refine q_iload hG rfl rfl ?_
        refine q_callV6 hG rfl rfl rfl (by assumption) (s_X_enterConstraint hX0 hR1 hW hq hr ⟨ha1, ha2⟩ ⟨hb1, hb2⟩ (fun h6 J2 o => ?_) (fun h6 p hf J2 o => ?_) (fun h6 hf J2 o1 o2 => ?_))
        · refine q_istore hG rfl rfl ?_
          refine q_iload hG rfl rfl ?_
          refine q_iconst (v := -1) hG rfl rfl ?_
          refine q_icmp_ne hG rfl ⟨by omega, by omega⟩ ⟨by omega, by omega⟩ (fun q => absurd q (by decide)) (fun _ => ?_)
          refine q_throw hG rfl ?_
          obtain ⟨z1, z2⟩ := rej_ok hC0 hH q2 o
          first
          | exact p2 ⟨⟨ha1, ha2⟩, ⟨hb1, hb2⟩⟩ hr h6 J2 z1 z2
          | exact p3 ⟨⟨ha1, ha2⟩, ⟨hb1, hb2⟩⟩ hr h6 p hf J2 z1 z2
        · refine q_istore hG rfl rfl ?_
          refine q_iload hG rfl rfl ?_
          refine q_iconst (v := -1) hG rfl rfl ?_
          refine q_icmp_ne hG rfl ⟨by omega, by omega⟩ ⟨by omega, by omega⟩ (fun q => absurd q (by decide)) (fun _ => ?_)
          refine q_throw hG rfl ?_
          obtain ⟨z1, z2⟩ := rej_ok hC0 hH q2 o
          first
          | exact p2 ⟨⟨ha1, ha2⟩, ⟨hb1, hb2⟩⟩ hr h6 J2 z1 z2
          | exact p3 ⟨⟨ha1, ha2⟩, ⟨hb1, hb2⟩⟩ hr h6 p hf J2 z1 z2
        · have w2 := hW0.2.2.1
          refine q_istore hG rfl rfl ?_
          refine q_iload hG rfl rfl ?_
          refine q_iconst (v := -1) hG rfl rfl ?_
          refine q_icmp_ne hG rfl ⟨by omega, by omega⟩ ⟨by omega, by omega⟩ (fun hc56 => ?_) (fun hc56 => absurd (by omega) hc56)
          refine q_aload_n hG rfl rfl ?_
          refine q_getR hG rfl (by assumption) (by assumption) ?_
          refine q_callV6 hG rfl rfl rfl (by assumption) (s_H_keep hX0 (nx := nx) (c := c) (h := h) ((hH.prep q2).row (fun a u v => o2 a (by omega))) (fun J3 k1 k2 k3 => ?_))
          obtain ⟨z1, z2⟩ := kept_ok hC0 hH q1 q2 o1 o2 k1 k2 k3
          refine q_iload hG rfl rfl ?_
          refine q_iret0 hG rfl rfl ?_
          exact p1 ⟨⟨ha1, ha2⟩, ⟨hb1, hb2⟩⟩ hr h6 hf J3 z1 z2
      · refine q_if_ne hG rfl ⟨by omega, by omega⟩ (fun q => absurd q (by decide)) (fun _ => ?_)
        refine q_throw hG rfl ?_
        exact pE ⟨⟨ha1, ha2⟩, ⟨hb1, hb2⟩⟩ hr
    · exact pD (fun z => hb z.2)
  · exact pD (fun z => ha z.1)
theorem s_P_removeCon {d : Nat} {B : HP} {I : IM} {Post : Out → HP → Prop} (hX : LX B) {R : RW} {c : Int} {h : Nat → RW} {sv : Int} {SR : RW} {eo why det cau q : Int} (hC : CSt I R c h sv SR eo why det cau) (hW : WfR q R) (hq : q ≤ 2000000000) {v : Int} (hv : r32 v) (pE : (∀ k, k < (R 1).toNat → ¬ R (29 + 5 * k) = v) → Post (.inr 3) (wI (junk B 6) I)) (p1 : ∀ p : Nat, fst (fun k => R (29 + 5 * k) = v) (R 1).toNat p → ∀ J : IM, CSt J (drpR R p) (c8 c) (psh R h) sv SR eo why det cau → (∀ a, 158 ≤ a → J a = I a) → Post (.inl (some (.int (i3 (R 1 - 1))))) (wI B J)) : Sp (d + 4) k_X8_removeConstraint [.ref 0, .int (i3 (v))] (wI B I) Post := by
  refine Sp_intro md_X8_removeConstraint rfl rfl (fun G hG => ?_)
  have hX0 := hX
  obtain ⟨x0, x1, x2, x3, x4, x5, x6, x7, x8, x9, x10, x11, x12, x13, x14, x15, x16, x17, x18, x19, x20, x21, x22, x23, x24, x25, x26, x27, x28, x29, x30, x31, x32, x33, x34, x35, x36, x37, x38, x39, x40, x41, x42, x43, x44⟩ := hX
  have hC0 := hC
  obtain ⟨hR, ⟨nx, hH⟩, -⟩ := hC
  have hn1 : R 1 ≤ 10 := hW.2.1.2
  have kD := x10.1
  have w0 := hW.1
  have hW0 := hW
  show G 0 [some (.ref 0), some (.int (i3 (v))), none, none] [] (wI B I)
  refine q_aload_n hG rfl rfl ?_
  refine q_iload_n hG rfl rfl ?_
  refine q_callV6 hG rfl rfl rfl (by assumption) (s_X_ckPos hX0 hR hW hq hv (fun p hf => ?_) (fun hf => ?_))
  · have hpl := hf.1
    refine q_istore_n hG rfl rfl ?_
    refine q_aload_n hG rfl rfl ?_
    refine q_getR hG rfl (by assumption) (by assumption) ?_
    refine q_aload_n hG rfl rfl ?_
    refine q_getR hG rfl (by assumption) (by assumption) ?_
    refine q_callV6 hG rfl rfl rfl (by assumption) (s_H_prepare hX0 hH hR hn1 (fun J1 q1 q2 => ?_))
    have hR1 : RepC J1 1 R := hR.row (fun a u v => q2 a (by omega))
    refine q_aload_n hG rfl rfl ?_
    refine q_iload_n hG rfl rfl ?_
    refine q_callV6 hG rfl rfl rfl (by assumption) (s_X_takeAway hX0 hR1 hW hq (p := p) (by omega) (fun J2 o1 o2 => ?_))
    refine q_istore_n hG rfl rfl ?_
    refine q_aload_n hG rfl rfl ?_
    refine q_getR hG rfl (by assumption) (by assumption) ?_
    refine q_callV6 hG rfl rfl rfl (by assumption) (s_H_keep hX0 (nx := nx) (c := c) (h := h) ((hH.prep q2).row (fun a u v => o2 a (by omega))) (fun J3 k1 k2 k3 => ?_))
    obtain ⟨z1, z2⟩ := kept_ok hC0 hH q1 q2 o1 o2 k1 k2 k3
    refine q_iload_n hG rfl rfl ?_
    refine q_iret0 hG rfl rfl ?_
    exact p1 p hf J3 z1 z2
  · exact pE hf
theorem s_P_pass {d : Nat} {B : HP} {I : IM} {Post : Out → HP → Prop} (hX : LX B) {R : RW} {c : Int} {h : Nat → RW} {sv : Int} {SR : RW} {eo why det cau q : Int} (hC : CSt I R c h sv SR eo why det cau) (hW : WfR q R) (hq : q ≤ 2000000000)  (p1 : (paR R 1).2 = none → ∀ J : IM, CSt J (setB R (paR R 1).1 1) (c8 c) (psh R h) sv SR eo why det cau → (∀ a, 158 ≤ a → J a = I a) → Post (.inl (some (.int (i3 ((paR R 1).1.2.2))))) (wI B J)) (p0 : ∀ p : Nat, (paR R 1).2 = some p → ∀ J : IM, CSt J R c h sv SR eo 5 (R (29 + 5 * p)) cau → (∀ a, 158 ≤ a → J a = I a) → Post (.inr 1) (wI (junk B 6) J)) : Sp (d + 5) k_X8_pass [.ref 0] (wI B I) Post := by
  refine Sp_intro md_X8_pass rfl rfl (fun G hG => ?_)
  have hX0 := hX
  obtain ⟨x0, x1, x2, x3, x4, x5, x6, x7, x8, x9, x10, x11, x12, x13, x14, x15, x16, x17, x18, x19, x20, x21, x22, x23, x24, x25, x26, x27, x28, x29, x30, x31, x32, x33, x34, x35, x36, x37, x38, x39, x40, x41, x42, x43, x44⟩ := hX
  have hC0 := hC
  obtain ⟨hR, ⟨nx, hH⟩, -⟩ := hC
  have hn1 : R 1 ≤ 10 := hW.2.1.2
  have kD := x10.1
  have w0 := hW.1
  have hW0 := hW
  show G 0 [some (.ref 0), none] [] (wI B I)
  refine q_aload_n hG rfl rfl ?_
  refine q_getR hG rfl (by assumption) (by assumption) ?_
  refine q_aload_n hG rfl rfl ?_
  refine q_getR hG rfl (by assumption) (by assumption) ?_
  refine q_callV6 hG rfl rfl rfl (by assumption) (s_H_prepare hX0 hH hR hn1 (fun J1 q1 q2 => ?_))
  have hR1 : RepC J1 1 R := hR.row (fun a u v => q2 a (by omega))
  refine q_aload_n hG rfl rfl ?_
  refine q_callV6 hG rfl rfl rfl (by assumption) (s_X_passOnce hX0 hR1 hW hq (fun h6 J2 o1 o2 => ?_) (fun p h6 J2 o => ?_))
  · have pb := pa_bd hW0 h6
    refine q_istore_n hG rfl rfl ?_
    refine q_iload_n hG rfl rfl ?_
    refine q_iconst (v := -1) hG rfl rfl ?_
    refine q_icmp_ne hG rfl ⟨by omega, by omega⟩ ⟨by omega, by omega⟩ (fun hc18 => ?_) (fun hc18 => absurd (by omega) hc18)
    refine q_aload_n hG rfl rfl ?_
    refine q_getR hG rfl (by assumption) (by assumption) ?_
    refine q_callV6 hG rfl rfl rfl (by assumption) (s_H_keep hX0 (nx := nx) (c := c) (h := h) ((hH.prep q2).row (fun a u v => o2 a (by omega))) (fun J3 k1 k2 k3 => ?_))
    obtain ⟨z1, z2⟩ := kept_ok hC0 hH q1 q2 o1 o2 k1 k2 k3
    refine q_iload_n hG rfl rfl ?_
    refine q_iret0 hG rfl rfl ?_
    exact p1 h6 J3 z1 z2
  · refine q_istore_n hG rfl rfl ?_
    refine q_iload_n hG rfl rfl ?_
    refine q_iconst (v := -1) hG rfl rfl ?_
    refine q_icmp_ne hG rfl ⟨by omega, by omega⟩ ⟨by omega, by omega⟩ (fun q => absurd q (by decide)) (fun _ => ?_)
    refine q_throw hG rfl ?_
    obtain ⟨z1, z2⟩ := rej_ok hC0 hH q2 o
    exact p0 p h6 J2 z1 z2
theorem s_P_settle {d : Nat} {B : HP} {I : IM} {Post : Out → HP → Prop} (hX : LX B) {R : RW} {c : Int} {h : Nat → RW} {sv : Int} {SR : RW} {eo why det cau q : Int} (hC : CSt I R c h sv SR eo why det cau) (hW : WfR q R) (hq : q ≤ 2000000000)  (p1 : (stR2 R 1).1 = none → ∀ J : IM, CSt J (setB R (stR2 R 1).2.1 (stR2 R 1).2.2) (c8 c) (psh R h) sv SR eo why det cau → (∀ a, 158 ≤ a → J a = I a) → Post (.inl (some (.int (i3 ((stR2 R 1).2.2))))) (wI B J)) (p0 : ∀ p : Nat, (stR2 R 1).1 = some p → ∀ J : IM, CSt J R c h sv SR eo 5 (R (29 + 5 * p)) cau → (∀ a, 158 ≤ a → J a = I a) → Post (.inr 1) (wI (junk B 6) J)) : Sp (d + 6) k_X8_settle [.ref 0] (wI B I) Post := by
  refine Sp_intro md_X8_settle rfl rfl (fun G hG => ?_)
  have hX0 := hX
  obtain ⟨x0, x1, x2, x3, x4, x5, x6, x7, x8, x9, x10, x11, x12, x13, x14, x15, x16, x17, x18, x19, x20, x21, x22, x23, x24, x25, x26, x27, x28, x29, x30, x31, x32, x33, x34, x35, x36, x37, x38, x39, x40, x41, x42, x43, x44⟩ := hX
  have hC0 := hC
  obtain ⟨hR, ⟨nx, hH⟩, -⟩ := hC
  have hn1 : R 1 ≤ 10 := hW.2.1.2
  have kD := x10.1
  have w0 := hW.1
  have hW0 := hW
  show G 0 [some (.ref 0), none] [] (wI B I)
  refine q_aload_n hG rfl rfl ?_
  refine q_getR hG rfl (by assumption) (by assumption) ?_
  refine q_aload_n hG rfl rfl ?_
  refine q_getR hG rfl (by assumption) (by assumption) ?_
  refine q_callV6 hG rfl rfl rfl (by assumption) (s_H_prepare hX0 hH hR hn1 (fun J1 q1 q2 => ?_))
  have hR1 : RepC J1 1 R := hR.row (fun a u v => q2 a (by omega))
  refine q_aload_n hG rfl rfl ?_
  refine q_callV6 hG rfl rfl rfl (by assumption) (s_X_settle hX0 hR1 hW hq (fun h6 J2 o1 o2 => ?_) (fun p h6 J2 o => ?_))
  · have pb := st_bd hW0 h6
    refine q_istore_n hG rfl rfl ?_
    refine q_iload_n hG rfl rfl ?_
    refine q_iconst (v := -1) hG rfl rfl ?_
    refine q_icmp_ne hG rfl ⟨by omega, by omega⟩ ⟨by omega, by omega⟩ (fun hc18 => ?_) (fun hc18 => absurd (by omega) hc18)
    refine q_aload_n hG rfl rfl ?_
    refine q_getR hG rfl (by assumption) (by assumption) ?_
    refine q_callV6 hG rfl rfl rfl (by assumption) (s_H_keep hX0 (nx := nx) (c := c) (h := h) ((hH.prep q2).row (fun a u v => o2 a (by omega))) (fun J3 k1 k2 k3 => ?_))
    obtain ⟨z1, z2⟩ := kept_ok hC0 hH q1 q2 o1 o2 k1 k2 k3
    refine q_iload_n hG rfl rfl ?_
    refine q_iret0 hG rfl rfl ?_
    exact p1 h6 J3 z1 z2
  · refine q_istore_n hG rfl rfl ?_
    refine q_iload_n hG rfl rfl ?_
    refine q_iconst (v := -1) hG rfl rfl ?_
    refine q_icmp_ne hG rfl ⟨by omega, by omega⟩ ⟨by omega, by omega⟩ (fun q => absurd q (by decide)) (fun _ => ?_)
    refine q_throw hG rfl ?_
    obtain ⟨z1, z2⟩ := rej_ok hC0 hH q2 o
    exact p0 p h6 J2 z1 z2
