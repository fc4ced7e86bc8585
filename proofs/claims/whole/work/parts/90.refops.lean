/-! the reference: the changes as they are called -/
theorem s_R_addDoor {d : Nat} {B : HP} {I : IM} {Post : Out → HP → Prop} {m : Nat} (hm : oM B m) {R : RW} {c : Int} {h : Nat → RW} {sv : Int} {SR : RW} {eo why det cau q : Int} (hM : MSt I m R c h sv SR eo why det cau) (hW : WfR q R) (hq : q ≤ 2000000000) {lo hi : Int} (hl : r32 lo) (hh : r32 hi) (p2 : ¬ rngP lo hi → ∀ J : IM, MSt J m R c h sv SR eo why det cau → J m 0 = 1 → mfT I J m → Post (.inl (some (.int (i3 0)))) (wI B J)) (p3 : rngP lo hi → R 0 = 6 → ∀ J : IM, MSt J m R c h sv SR eo 1 (6) cau → J m 0 = 2 → mfT I J m → Post (.inl (some (.int (i3 0)))) (wI B J)) (p0 : rngP lo hi → R 0 < 6 → ∀ J : IM, MSt J m (addR R lo hi) (c8 c) (psh R h) sv SR eo why det cau → J m 0 = 0 → mfT I J m → Post (.inl (some (.int (i3 (R 0))))) (wI B J)) : Sp (d + 7) k_X9_addDoor [.ref m, .int (i3 (lo)), .int (i3 (hi))] (wI B I) Post := by
  refine Sp_intro md_X9_addDoor rfl rfl (fun G hG => ?_)
  have hm0 := hm
  obtain ⟨n1, n2, n3, n4, n5, n6, n7, n8, n9, n10, n11⟩ := hm
  show G 0 [some (.ref m), some (.int (i3 (lo))), some (.int (i3 (hi)))] [] (wI B I)
  refine q_aload_n hG rfl rfl ?_
  refine q_callV6 hG rfl rfl rfl (by assumption) (s_R_begins hm0 hM (fun J1 b1 b2 b3 b4 => ?_))
  refine q_aload_n hG rfl rfl ?_
  refine q_aload_n hG rfl rfl ?_
  refine q_iload_n hG rfl rfl ?_
  refine q_iload_n hG rfl rfl ?_
  refine q_callV6 hG rfl rfl rfl (by assumption) (s_R_adds hm0 b2 hW hq hl hh (fun u0 => ?_) (fun u0 u1 J2 o1 o2 o3 => ?_) (fun u0 u1 J2 o1 o2 o3 => ?_))
  · refine q_iconst (v := 0) hG rfl rfl ?_
    refine q_iconst (v := 1) hG rfl rfl ?_
    refine q_iconst (v := 2) hG rfl rfl ?_
    refine q_iconst (v := 0) hG rfl rfl ?_
    refine q_callV6 hG rfl rfl rfl (by assumption) (s_R_ends2 hm0 (by exact ⟨⟨by omega, by omega⟩, by omega⟩) b1 (fun J q1 q2 q3 => ?_))
    have fin := p2 u0 J q1 q2 (b3.trans q3)
    refine q_iret0 hG rfl rfl ?_
    exact fin
  · refine q_iconst (v := 0) hG rfl rfl ?_
    refine q_iconst (v := 1) hG rfl rfl ?_
    refine q_iconst (v := 2) hG rfl rfl ?_
    refine q_iconst (v := 0) hG rfl rfl ?_
    refine q_callV6 hG rfl rfl rfl (by assumption) (s_R_ends3 hm0 (by exact ⟨⟨by omega, by omega⟩, by omega⟩) (b1.m o3) o1 o2 (fun J q1 q2 q3 => ?_))
    have fin := p3 u0 u1 J q1 q2 ((b3.trans o3.T).trans q3)
    refine q_iret0 hG rfl rfl ?_
    exact fin
  · refine q_iconst (v := 0) hG rfl rfl ?_
    refine q_iconst (v := 1) hG rfl rfl ?_
    refine q_iconst (v := 2) hG rfl rfl ?_
    refine q_iconst (v := 0) hG rfl rfl ?_
    refine q_callV6 hG rfl rfl rfl (by assumption) (s_R_ends0 hm0 (b1.m o3) o1 o2 (fun J q1 q2 q3 => ?_))
    have fin := p0 u0 u1 J q1 q2 ((b3.trans o3.T).trans q3)
    refine q_iret0 hG rfl rfl ?_
    exact fin
theorem s_R_setFrame {d : Nat} {B : HP} {I : IM} {Post : Out → HP → Prop} {m : Nat} (hm : oM B m) {R : RW} {c : Int} {h : Nat → RW} {sv : Int} {SR : RW} {eo why det cau q : Int} (hM : MSt I m R c h sv SR eo why det cau) (hW : WfR q R) (hq : q ≤ 2000000000) {x lo hi : Int} (hx : r32 x) (hl : r32 lo) (hh : r32 hi) (p1 : (¬ (0 ≤ x ∧ x < R 0)) → ∀ J : IM, MSt J m R c h sv SR eo why det cau → J m 0 = 1 → mfT I J m → Post (.inl (some (.int (i3 0)))) (wI B J)) (p2 : (0 ≤ x ∧ x < R 0) → ¬ rngP lo hi → ∀ J : IM, MSt J m R c h sv SR eo why det cau → J m 0 = 2 → mfT I J m → Post (.inl (some (.int (i3 0)))) (wI B J)) (p0 : (0 ≤ x ∧ x < R 0) → rngP lo hi → ∀ J : IM, MSt J m (frmR R x.toNat lo hi) (c8 c) (psh R h) sv SR eo why det cau → J m 0 = 0 → mfT I J m → Post (.inl (some (.int (i3 (unl R (frmR R x.toNat lo hi)))))) (wI B J)) : Sp (d + 7) k_X9_setFrame [.ref m, .int (i3 (x)), .int (i3 (lo)), .int (i3 (hi))] (wI B I) Post := by
  refine Sp_intro md_X9_setFrame rfl rfl (fun G hG => ?_)
  have hm0 := hm
  obtain ⟨n1, n2, n3, n4, n5, n6, n7, n8, n9, n10, n11⟩ := hm
  show G 0 [some (.ref m), some (.int (i3 (x))), some (.int (i3 (lo))), some (.int (i3 (hi)))] [] (wI B I)
  refine q_aload_n hG rfl rfl ?_
  refine q_callV6 hG rfl rfl rfl (by assumption) (s_R_begins hm0 hM (fun J1 b1 b2 b3 b4 => ?_))
  refine q_aload_n hG rfl rfl ?_
  refine q_aload_n hG rfl rfl ?_
  refine q_iload_n hG rfl rfl ?_
  refine q_iload_n hG rfl rfl ?_
  refine q_iload_n hG rfl rfl ?_
  refine q_callV6 hG rfl rfl rfl (by assumption) (s_R_frames hm0 b2 hW hq hx hl hh (fun u0 => ?_) (fun u0 u1 => ?_) (fun u0 u1 J2 o1 o2 o3 => ?_))
  · refine q_iconst (v := 1) hG rfl rfl ?_
    refine q_iconst (v := 2) hG rfl rfl ?_
    refine q_iconst (v := 0) hG rfl rfl ?_
    refine q_iconst (v := 0) hG rfl rfl ?_
    refine q_callV6 hG rfl rfl rfl (by assumption) (s_R_ends1 hm0 (by exact ⟨⟨by omega, by omega⟩, by omega⟩) b1 (fun J q1 q2 q3 => ?_))
    have fin := p1 u0 J q1 q2 (b3.trans q3)
    refine q_iret0 hG rfl rfl ?_
    exact fin
  · refine q_iconst (v := 1) hG rfl rfl ?_
    refine q_iconst (v := 2) hG rfl rfl ?_
    refine q_iconst (v := 0) hG rfl rfl ?_
    refine q_iconst (v := 0) hG rfl rfl ?_
    refine q_callV6 hG rfl rfl rfl (by assumption) (s_R_ends2 hm0 (by exact ⟨⟨by omega, by omega⟩, by omega⟩) b1 (fun J q1 q2 q3 => ?_))
    have fin := p2 u0 u1 J q1 q2 (b3.trans q3)
    refine q_iret0 hG rfl rfl ?_
    exact fin
  · refine q_iconst (v := 1) hG rfl rfl ?_
    refine q_iconst (v := 2) hG rfl rfl ?_
    refine q_iconst (v := 0) hG rfl rfl ?_
    refine q_iconst (v := 0) hG rfl rfl ?_
    refine q_callV6 hG rfl rfl rfl (by assumption) (s_R_ends0 hm0 (b1.m o3) o1 o2 (fun J q1 q2 q3 => ?_))
    have fin := p0 u0 u1 J q1 q2 ((b3.trans o3.T).trans q3)
    refine q_iret0 hG rfl rfl ?_
    exact fin
theorem s_R_narrow {d : Nat} {B : HP} {I : IM} {Post : Out → HP → Prop} {m : Nat} (hm : oM B m) {R : RW} {c : Int} {h : Nat → RW} {sv : Int} {SR : RW} {eo why det cau q : Int} (hM : MSt I m R c h sv SR eo why det cau) (hW : WfR q R) (hq : q ≤ 2000000000) {x lo hi : Int} (hx : r32 x) (hl : r32 lo) (hh : r32 hi) (p1 : (¬ (0 ≤ x ∧ x < R 0)) → ∀ J : IM, MSt J m R c h sv SR eo why det cau → J m 0 = 1 → mfT I J m → Post (.inl (some (.int (i3 0)))) (wI B J)) (p2 : (0 ≤ x ∧ x < R 0) → ¬ rngP lo hi → ∀ J : IM, MSt J m R c h sv SR eo why det cau → J m 0 = 2 → mfT I J m → Post (.inl (some (.int (i3 0)))) (wI B J)) (p3 : (0 ≤ x ∧ x < R 0) → rngP lo hi → (if hi < R (5 + 4 * x.toNat + 3) then hi else R (5 + 4 * x.toNat + 3)) < (if R (5 + 4 * x.toNat + 2) < lo then lo else R (5 + 4 * x.toNat + 2)) → ∀ J : IM, MSt J m R c h sv SR eo 4 (R (5 + 4 * x.toNat + 2)) cau → J m 0 = 3 → mfT I J m → Post (.inl (some (.int (i3 0)))) (wI B J)) (p0 : (0 ≤ x ∧ x < R 0) → rngP lo hi → (if R (5 + 4 * x.toNat + 2) < lo then lo else R (5 + 4 * x.toNat + 2)) ≤ (if hi < R (5 + 4 * x.toNat + 3) then hi else R (5 + 4 * x.toNat + 3)) → ∀ J : IM, MSt J m (narR R x.toNat (if R (5 + 4 * x.toNat + 2) < lo then lo else R (5 + 4 * x.toNat + 2)) (if hi < R (5 + 4 * x.toNat + 3) then hi else R (5 + 4 * x.toNat + 3))) (c8 c) (psh R h) sv SR eo why det cau → J m 0 = 0 → mfT I J m → Post (.inl (some (.int (i3 (df (if R (5 + 4 * x.toNat + 2) < lo then lo else R (5 + 4 * x.toNat + 2)) (R (5 + 4 * x.toNat + 2)) + df (if hi < R (5 + 4 * x.toNat + 3) then hi else R (5 + 4 * x.toNat + 3)) (R (5 + 4 * x.toNat + 3))))))) (wI B J)) : Sp (d + 7) k_X9_narrow [.ref m, .int (i3 (x)), .int (i3 (lo)), .int (i3 (hi))] (wI B I) Post := by
  refine Sp_intro md_X9_narrow rfl rfl (fun G hG => ?_)
  have hm0 := hm
  obtain ⟨n1, n2, n3, n4, n5, n6, n7, n8, n9, n10, n11⟩ := hm
  show G 0 [some (.ref m), some (.int (i3 (x))), some (.int (i3 (lo))), some (.int (i3 (hi)))] [] (wI B I)
  refine q_aload_n hG rfl rfl ?_
  refine q_callV6 hG rfl rfl rfl (by assumption) (s_R_begins hm0 hM (fun J1 b1 b2 b3 b4 => ?_))
  refine q_aload_n hG rfl rfl ?_
  refine q_aload_n hG rfl rfl ?_
  refine q_iload_n hG rfl rfl ?_
  refine q_iload_n hG rfl rfl ?_
  refine q_iload_n hG rfl rfl ?_
  refine q_callV6 hG rfl rfl rfl (by assumption) (s_R_narrowed hm0 b2 hW hq hx hl hh (fun u0 => ?_) (fun u0 u1 => ?_) (fun u0 u1 u2 J2 o1 o2 o3 => ?_) (fun u0 u1 u2 J2 o1 o2 o3 => ?_))
  · refine q_iconst (v := 1) hG rfl rfl ?_
    refine q_iconst (v := 2) hG rfl rfl ?_
    refine q_iconst (v := 3) hG rfl rfl ?_
    refine q_iconst (v := 0) hG rfl rfl ?_
    refine q_callV6 hG rfl rfl rfl (by assumption) (s_R_ends1 hm0 (by exact ⟨⟨by omega, by omega⟩, by omega⟩) b1 (fun J q1 q2 q3 => ?_))
    have fin := p1 u0 J q1 q2 (b3.trans q3)
    refine q_iret0 hG rfl rfl ?_
    exact fin
  · refine q_iconst (v := 1) hG rfl rfl ?_
    refine q_iconst (v := 2) hG rfl rfl ?_
    refine q_iconst (v := 3) hG rfl rfl ?_
    refine q_iconst (v := 0) hG rfl rfl ?_
    refine q_callV6 hG rfl rfl rfl (by assumption) (s_R_ends2 hm0 (by exact ⟨⟨by omega, by omega⟩, by omega⟩) b1 (fun J q1 q2 q3 => ?_))
    have fin := p2 u0 u1 J q1 q2 (b3.trans q3)
    refine q_iret0 hG rfl rfl ?_
    exact fin
  · refine q_iconst (v := 1) hG rfl rfl ?_
    refine q_iconst (v := 2) hG rfl rfl ?_
    refine q_iconst (v := 3) hG rfl rfl ?_
    refine q_iconst (v := 0) hG rfl rfl ?_
    refine q_callV6 hG rfl rfl rfl (by assumption) (s_R_ends3 hm0 (by exact ⟨⟨by omega, by omega⟩, by omega⟩) (b1.m o3) o1 o2 (fun J q1 q2 q3 => ?_))
    have fin := p3 u0 u1 u2 J q1 q2 ((b3.trans o3.T).trans q3)
    refine q_iret0 hG rfl rfl ?_
    exact fin
  · refine q_iconst (v := 1) hG rfl rfl ?_
    refine q_iconst (v := 2) hG rfl rfl ?_
    refine q_iconst (v := 3) hG rfl rfl ?_
    refine q_iconst (v := 0) hG rfl rfl ?_
    refine q_callV6 hG rfl rfl rfl (by assumption) (s_R_ends0 hm0 (b1.m o3) o1 o2 (fun J q1 q2 q3 => ?_))
    have fin := p0 u0 u1 u2 J q1 q2 ((b3.trans o3.T).trans q3)
    refine q_iret0 hG rfl rfl ?_
    exact fin
theorem s_R_reset {d : Nat} {B : HP} {I : IM} {Post : Out → HP → Prop} {m : Nat} (hm : oM B m) {R : RW} {c : Int} {h : Nat → RW} {sv : Int} {SR : RW} {eo why det cau q : Int} (hM : MSt I m R c h sv SR eo why det cau) (hW : WfR q R) (hq : q ≤ 2000000000)  (p0 : ∀ J : IM, MSt J m (openR R) (c8 c) (psh R h) sv SR eo why det cau → J m 0 = 0 → mfT I J m → Post (.inl (some (.int (i3 (unl R (openR R)))))) (wI B J)) : Sp (d + 7) k_X9_reset [.ref m] (wI B I) Post := by
  refine Sp_intro md_X9_reset rfl rfl (fun G hG => ?_)
  have hm0 := hm
  obtain ⟨n1, n2, n3, n4, n5, n6, n7, n8, n9, n10, n11⟩ := hm
  show G 0 [some (.ref m)] [] (wI B I)
  refine q_aload_n hG rfl rfl ?_
  refine q_callV6 hG rfl rfl rfl (by assumption) (s_R_begins hm0 hM (fun J1 b1 b2 b3 b4 => ?_))
  refine q_aload_n hG rfl rfl ?_
  refine q_aload_n hG rfl rfl ?_
  refine q_callV6 hG rfl rfl rfl (by assumption) (s_R_resetsAll hm0 b2 hW hq  (fun J2 o1 o2 o3 => ?_))
  refine q_iconst (v := 0) hG rfl rfl ?_
  refine q_iconst (v := 0) hG rfl rfl ?_
  refine q_iconst (v := 0) hG rfl rfl ?_
  refine q_iconst (v := 0) hG rfl rfl ?_
  refine q_callV6 hG rfl rfl rfl (by assumption) (s_R_ends0 hm0 (b1.m o3) o1 o2 (fun J q1 q2 q3 => ?_))
  have fin := p0 J q1 q2 ((b3.trans o3.T).trans q3)
  refine q_iret0 hG rfl rfl ?_
  exact fin
theorem s_R_addConstraint {d : Nat} {B : HP} {I : IM} {Post : Out → HP → Prop} {m : Nat} (hm : oM B m) {R : RW} {c : Int} {h : Nat → RW} {sv : Int} {SR : RW} {eo why det cau q : Int} (hM : MSt I m R c h sv SR eo why det cau) (hW : WfR q R) (hq : q ≤ 2000000000) {kd f s g : Int} (hx : r32 kd ∧ r32 f ∧ r32 s ∧ r32 g) (p1 : (¬ ((0 ≤ f ∧ f < R 0) ∧ (0 ≤ s ∧ s < R 0))) → ∀ J : IM, MSt J m R c h sv SR eo why det cau → J m 0 = 1 → mfT I J m → Post (.inl (some (.int (i3 0)))) (wI B J)) (p2 : ((0 ≤ f ∧ f < R 0) ∧ (0 ≤ s ∧ s < R 0)) → ¬ cnP kd f s g → ∀ J : IM, MSt J m R c h sv SR eo why det cau → J m 0 = 2 → mfT I J m → Post (.inl (some (.int (i3 0)))) (wI B J)) (p3 : ((0 ≤ f ∧ f < R 0) ∧ (0 ≤ s ∧ s < R 0)) → cnP kd f s g → R 1 = 10 → ∀ J : IM, MSt J m R c h sv SR eo 2 (R 29) cau → J m 0 = 3 → mfT I J m → Post (.inl (some (.int (i3 0)))) (wI B J)) (p4 : ((0 ≤ f ∧ f < R 0) ∧ (0 ≤ s ∧ s < R 0)) → cnP kd f s g → R 1 < 10 → ∀ p : Nat, fst (sameR R kd f s g) (R 1).toNat p → ∀ J : IM, MSt J m R c h sv SR eo 3 (R (29 + 5 * p)) cau → J m 0 = 3 → mfT I J m → Post (.inl (some (.int (i3 0)))) (wI B J)) (p0 : ((0 ≤ f ∧ f < R 0) ∧ (0 ≤ s ∧ s < R 0)) → cnP kd f s g → R 1 < 10 → (∀ k, k < (R 1).toNat → ¬ sameR R kd f s g k) → ∀ J : IM, MSt J m (bndR R kd f s g) (c8 c) (psh R h) sv SR eo why det cau → J m 0 = 0 → mfT I J m → Post (.inl (some (.int (i3 (R 2))))) (wI B J)) : Sp (d + 7) k_X9_addConstraint [.ref m, .int (i3 (kd)), .int (i3 (f)), .int (i3 (s)), .int (i3 (g))] (wI B I) Post := by
  refine Sp_intro md_X9_addConstraint rfl rfl (fun G hG => ?_)
  have hm0 := hm
  obtain ⟨n1, n2, n3, n4, n5, n6, n7, n8, n9, n10, n11⟩ := hm
  show G 0 [some (.ref m), some (.int (i3 (kd))), some (.int (i3 (f))), some (.int (i3 (s))), some (.int (i3 (g)))] [] (wI B I)
  refine q_aload_n hG rfl rfl ?_
  refine q_callV6 hG rfl rfl rfl (by assumption) (s_R_begins hm0 hM (fun J1 b1 b2 b3 b4 => ?_))
  refine q_aload_n hG rfl rfl ?_
  refine q_aload_n hG rfl rfl ?_
  refine q_iload_n hG rfl rfl ?_
  refine q_iload_n hG rfl rfl ?_
  refine q_iload_n hG rfl rfl ?_
  refine q_iload hG rfl rfl ?_
  refine q_callV6 hG rfl rfl rfl (by assumption) (s_R_binds hm0 b2 hW hq hx (fun u0 => ?_) (fun u0 u1 => ?_) (fun u0 u1 u2 J2 o1 o2 o3 => ?_) (fun u0 u1 u2 p u3 J2 o1 o2 o3 => ?_) (fun u0 u1 u2 u3 J2 o1 o2 o3 => ?_))
  · refine q_iconst (v := 1) hG rfl rfl ?_
    refine q_iconst (v := 2) hG rfl rfl ?_
    refine q_iconst (v := 3) hG rfl rfl ?_
    refine q_iconst (v := 0) hG rfl rfl ?_
    refine q_callV6 hG rfl rfl rfl (by assumption) (s_R_ends1 hm0 (by exact ⟨⟨by omega, by omega⟩, by omega⟩) b1 (fun J q1 q2 q3 => ?_))
    have fin := p1 u0 J q1 q2 (b3.trans q3)
    refine q_iret0 hG rfl rfl ?_
    exact fin
  · refine q_iconst (v := 1) hG rfl rfl ?_
    refine q_iconst (v := 2) hG rfl rfl ?_
    refine q_iconst (v := 3) hG rfl rfl ?_
    refine q_iconst (v := 0) hG rfl rfl ?_
    refine q_callV6 hG rfl rfl rfl (by assumption) (s_R_ends2 hm0 (by exact ⟨⟨by omega, by omega⟩, by omega⟩) b1 (fun J q1 q2 q3 => ?_))
    have fin := p2 u0 u1 J q1 q2 (b3.trans q3)
    refine q_iret0 hG rfl rfl ?_
    exact fin
  · refine q_iconst (v := 1) hG rfl rfl ?_
    refine q_iconst (v := 2) hG rfl rfl ?_
    refine q_iconst (v := 3) hG rfl rfl ?_
    refine q_iconst (v := 0) hG rfl rfl ?_
    refine q_callV6 hG rfl rfl rfl (by assumption) (s_R_ends3 hm0 (by exact ⟨⟨by omega, by omega⟩, by omega⟩) (b1.m o3) o1 o2 (fun J q1 q2 q3 => ?_))
    have fin := p3 u0 u1 u2 J q1 q2 ((b3.trans o3.T).trans q3)
    refine q_iret0 hG rfl rfl ?_
    exact fin
  · refine q_iconst (v := 1) hG rfl rfl ?_
    refine q_iconst (v := 2) hG rfl rfl ?_
    refine q_iconst (v := 3) hG rfl rfl ?_
    refine q_iconst (v := 0) hG rfl rfl ?_
    refine q_callV6 hG rfl rfl rfl (by assumption) (s_R_ends3 hm0 (by exact ⟨⟨by omega, by omega⟩, by omega⟩) (b1.m o3) o1 o2 (fun J q1 q2 q3 => ?_))
    have fin := p4 u0 u1 u2 p u3 J q1 q2 ((b3.trans o3.T).trans q3)
    refine q_iret0 hG rfl rfl ?_
    exact fin
  · refine q_iconst (v := 1) hG rfl rfl ?_
    refine q_iconst (v := 2) hG rfl rfl ?_
    refine q_iconst (v := 3) hG rfl rfl ?_
    refine q_iconst (v := 0) hG rfl rfl ?_
    refine q_callV6 hG rfl rfl rfl (by assumption) (s_R_ends0 hm0 (b1.m o3) o1 o2 (fun J q1 q2 q3 => ?_))
    have fin := p0 u0 u1 u2 u3 J q1 q2 ((b3.trans o3.T).trans q3)
    refine q_iret0 hG rfl rfl ?_
    exact fin
theorem s_R_removeConstraint {d : Nat} {B : HP} {I : IM} {Post : Out → HP → Prop} {m : Nat} (hm : oM B m) {R : RW} {c : Int} {h : Nat → RW} {sv : Int} {SR : RW} {eo why det cau q : Int} (hM : MSt I m R c h sv SR eo why det cau) (hW : WfR q R) (hq : q ≤ 2000000000) {v : Int} (hv : r32 v) (p4 : (∀ k, k < (R 1).toNat → ¬ R (29 + 5 * k) = v) → ∀ J : IM, MSt J m R c h sv SR eo why det cau → J m 0 = 1 → mfT I J m → Post (.inl (some (.int (i3 0)))) (wI B J)) (p0 : ∀ p : Nat, fst (fun k => R (29 + 5 * k) = v) (R 1).toNat p → ∀ J : IM, MSt J m (drpR R p) (c8 c) (psh R h) sv SR eo why det cau → J m 0 = 0 → mfT I J m → Post (.inl (some (.int (i3 (R 1 - 1))))) (wI B J)) : Sp (d + 7) k_X9_removeConstraint [.ref m, .int (i3 (v))] (wI B I) Post := by
  refine Sp_intro md_X9_removeConstraint rfl rfl (fun G hG => ?_)
  have hm0 := hm
  obtain ⟨n1, n2, n3, n4, n5, n6, n7, n8, n9, n10, n11⟩ := hm
  show G 0 [some (.ref m), some (.int (i3 (v)))] [] (wI B I)
  refine q_aload_n hG rfl rfl ?_
  refine q_callV6 hG rfl rfl rfl (by assumption) (s_R_begins hm0 hM (fun J1 b1 b2 b3 b4 => ?_))
  refine q_aload_n hG rfl rfl ?_
  refine q_aload_n hG rfl rfl ?_
  refine q_iload_n hG rfl rfl ?_
  refine q_callV6 hG rfl rfl rfl (by assumption) (s_R_drops hm0 b2 hW hq hv (fun u0 => ?_) (fun p u0 J2 o1 o2 o3 => ?_))
  · refine q_iconst (v := 0) hG rfl rfl ?_
    refine q_iconst (v := 0) hG rfl rfl ?_
    refine q_iconst (v := 0) hG rfl rfl ?_
    refine q_iconst (v := 1) hG rfl rfl ?_
    refine q_callV6 hG rfl rfl rfl (by assumption) (s_R_ends4 hm0 (by exact ⟨⟨by omega, by omega⟩, by omega⟩) b1 (fun J q1 q2 q3 => ?_))
    have fin := p4 u0 J q1 q2 (b3.trans q3)
    refine q_iret0 hG rfl rfl ?_
    exact fin
  · refine q_iconst (v := 0) hG rfl rfl ?_
    refine q_iconst (v := 0) hG rfl rfl ?_
    refine q_iconst (v := 0) hG rfl rfl ?_
    refine q_iconst (v := 1) hG rfl rfl ?_
    refine q_callV6 hG rfl rfl rfl (by assumption) (s_R_ends0 hm0 (b1.m o3) o1 o2 (fun J q1 q2 q3 => ?_))
    have fin := p0 p u0 J q1 q2 ((b3.trans o3.T).trans q3)
    refine q_iret0 hG rfl rfl ?_
    exact fin
theorem s_R_pass {d : Nat} {B : HP} {I : IM} {Post : Out → HP → Prop} {m : Nat} (hm : oM B m) {R : RW} {c : Int} {h : Nat → RW} {sv : Int} {SR : RW} {eo why det cau q : Int} (hM : MSt I m R c h sv SR eo why det cau) (hW : WfR q R) (hq : q ≤ 2000000000)  (p3 : ∀ p : Nat, (paR R 1).2 = some p → ∀ J : IM, MSt J m R c h sv SR eo 5 (R (29 + 5 * p)) cau → J m 0 = 1 → mfT I J m → Post (.inl (some (.int (i3 0)))) (wI B J)) (p0 : (paR R 1).2 = none → ∀ J : IM, MSt J m (setB R (paR R 1).1 1) (c8 c) (psh R h) sv SR eo why det cau → J m 0 = 0 → mfT I J m → Post (.inl (some (.int (i3 ((paR R 1).1.2.2))))) (wI B J)) : Sp (d + 10) k_X9_pass [.ref m] (wI B I) Post := by
  refine Sp_intro md_X9_pass rfl rfl (fun G hG => ?_)
  have hm0 := hm
  obtain ⟨n1, n2, n3, n4, n5, n6, n7, n8, n9, n10, n11⟩ := hm
  show G 0 [some (.ref m)] [] (wI B I)
  refine q_aload_n hG rfl rfl ?_
  refine q_callV6 hG rfl rfl rfl (by assumption) (s_R_begins hm0 hM (fun J1 b1 b2 b3 b4 => ?_))
  refine q_aload_n hG rfl rfl ?_
  refine q_aload_n hG rfl rfl ?_
  refine q_callV6 hG rfl rfl rfl (by assumption) (s_R_passes hm0 b2 hW hq  (fun p u0 J2 o1 o2 o3 => ?_) (fun u0 J2 o1 o2 o3 => ?_))
  · refine q_iconst (v := 0) hG rfl rfl ?_
    refine q_iconst (v := 0) hG rfl rfl ?_
    refine q_iconst (v := 1) hG rfl rfl ?_
    refine q_iconst (v := 0) hG rfl rfl ?_
    refine q_callV6 hG rfl rfl rfl (by assumption) (s_R_ends3 hm0 (by exact ⟨⟨by omega, by omega⟩, by omega⟩) (b1.m o3) o1 o2 (fun J q1 q2 q3 => ?_))
    have fin := p3 p u0 J q1 q2 ((b3.trans o3.T).trans q3)
    refine q_iret0 hG rfl rfl ?_
    exact fin
  · refine q_iconst (v := 0) hG rfl rfl ?_
    refine q_iconst (v := 0) hG rfl rfl ?_
    refine q_iconst (v := 1) hG rfl rfl ?_
    refine q_iconst (v := 0) hG rfl rfl ?_
    refine q_callV6 hG rfl rfl rfl (by assumption) (s_R_ends0 hm0 (b1.m o3) o1 o2 (fun J q1 q2 q3 => ?_))
    have fin := p0 u0 J q1 q2 ((b3.trans o3.T).trans q3)
    refine q_iret0 hG rfl rfl ?_
    exact fin
theorem s_R_settle {d : Nat} {B : HP} {I : IM} {Post : Out → HP → Prop} {m : Nat} (hm : oM B m) {R : RW} {c : Int} {h : Nat → RW} {sv : Int} {SR : RW} {eo why det cau q : Int} (hM : MSt I m R c h sv SR eo why det cau) (hW : WfR q R) (hq : q ≤ 2000000000)  (p3 : ∀ p : Nat, (stR2 R 1).1 = some p → ∀ J : IM, MSt J m R c h sv SR eo 5 (R (29 + 5 * p)) cau → J m 0 = 1 → mfT I J m → Post (.inl (some (.int (i3 0)))) (wI B J)) (p0 : (stR2 R 1).1 = none → ∀ J : IM, MSt J m (setB R (stR2 R 1).2.1 (stR2 R 1).2.2) (c8 c) (psh R h) sv SR eo why det cau → J m 0 = 0 → mfT I J m → Post (.inl (some (.int (i3 ((stR2 R 1).2.2))))) (wI B J)) : Sp (d + 11) k_X9_settle [.ref m] (wI B I) Post := by
  refine Sp_intro md_X9_settle rfl rfl (fun G hG => ?_)
  have hm0 := hm
  obtain ⟨n1, n2, n3, n4, n5, n6, n7, n8, n9, n10, n11⟩ := hm
  show G 0 [some (.ref m)] [] (wI B I)
  refine q_aload_n hG rfl rfl ?_
  refine q_callV6 hG rfl rfl rfl (by assumption) (s_R_begins hm0 hM (fun J1 b1 b2 b3 b4 => ?_))
  refine q_aload_n hG rfl rfl ?_
  refine q_aload_n hG rfl rfl ?_
  refine q_callV6 hG rfl rfl rfl (by assumption) (s_R_settlesAll hm0 b2 hW hq  (fun p u0 J2 o1 o2 o3 => ?_) (fun u0 J2 o1 o2 o3 => ?_))
  · refine q_iconst (v := 0) hG rfl rfl ?_
    refine q_iconst (v := 0) hG rfl rfl ?_
    refine q_iconst (v := 1) hG rfl rfl ?_
    refine q_iconst (v := 0) hG rfl rfl ?_
    refine q_callV6 hG rfl rfl rfl (by assumption) (s_R_ends3 hm0 (by exact ⟨⟨by omega, by omega⟩, by omega⟩) (b1.m o3) o1 o2 (fun J q1 q2 q3 => ?_))
    have fin := p3 p u0 J q1 q2 ((b3.trans o3.T).trans q3)
    refine q_iret0 hG rfl rfl ?_
    exact fin
  · refine q_iconst (v := 0) hG rfl rfl ?_
    refine q_iconst (v := 0) hG rfl rfl ?_
    refine q_iconst (v := 1) hG rfl rfl ?_
    refine q_iconst (v := 0) hG rfl rfl ?_
    refine q_callV6 hG rfl rfl rfl (by assumption) (s_R_ends0 hm0 (b1.m o3) o1 o2 (fun J q1 q2 q3 => ?_))
    have fin := p0 u0 J q1 q2 ((b3.trans o3.T).trans q3)
    refine q_iret0 hG rfl rfl ?_
    exact fin
