/-! the calls that tell: both sides answer alike -/
set_option maxRecDepth 100000 in
theorem lc_5 {d : Nat} {Post : Out → HP → Prop} {G : Nat → LV → List Value → HP → Prop} (hG : Cl (Sp (d + 21)) md_L_law Post G) {N L : Nat} {B : HP} {I : IM} (hI : INV N L B I) (hN : N ≤ 512) {i : Nat} (hi : i + 5 ≤ L) (hL : L ≤ 2560) (hend : ∀ (B2 : HP) (K : IM) (l6 l7 l8 : Option Value), INV (N + 1) L B2 K → G 2835 [some (.ref (BIG + 20)), some (.ref 0), some (.ref 178), some (.ref 184), some (.ref 185), some (.int (i3 (i : Int))), l6, l7, l8] [] (wI B2 K)) (l6 l7 l8 : Option Value) : G 530 [some (.ref (BIG + 20)), some (.ref 0), some (.ref 178), some (.ref 184), some (.ref 185), some (.int (i3 (i : Int))), l6, l7, l8] [] (wI B I) := by
  obtain ⟨R, c, h, sv, SR, eo, why, det, cau, o, l, hb, hKI, sC0, sM0, hWI⟩ := hI
  have hb0 := hb
  obtain ⟨hX, hm, hk4, hd4, h20, hn1, hw1, hv0⟩ := hb0
  have h0 := hX.1
  have h178 := hm.1
  have hW := hWI.1
  have w0 := hW.1
  have w1 := hW.2.1
  have hq : 20000 * (N : Int) ≤ 2000000000 := by omega
  have hC := sC0.1
  have hR := hC.1
  have hrW := hWI.2.2.2.1
  obtain ⟨x1, e1⟩ : ∃ v, I (BIG + 20) (i + 1) = v := ⟨_, rfl⟩
  have r1 : r32 x1 := e1 ▸ hKI.2.2.2 (i + 1)
  have ra1 := r1.1
  have rb1 := r1.2
  refine q_aload_n hG rfl rfl ?_
  refine q_aload_n hG rfl rfl ?_
  refine q_iload hG rfl rfl ?_
  refine q_iconst (v := 1) hG rfl rfl ?_
  refine q_iadd hG rfl ?_
  refine q_iald9v (v := x1) hG rfl h20 ⟨by omega, by omega, by omega⟩ (by rw [show ((i : Int) + 1).toNat = i + 1 by omega]; exact e1) ?_
  refine q_aload_n hG rfl rfl ?_
  refine q_callS0 hG rfl rfl rfl (s_L_lowOf h0 (fun P y z2 => s_X_lowOf hX hR hW hq r1 (fun a1 => z2 _ _ ?_) (fun a1 => y _ _ _ hk4 ?_)))
  · have u : upB B (junk B 6) := upB.junk B
    have f : frX I I := frX.refl I
    have sC := sC0
    have sM := sM0
    have hm9 := hm.cg u.cg
    have h178 := (u.1 178).trans h178
    have h20 := (u.1 (BIG + 20)).trans h20
    have hk9 := (u.1 184).trans hk4
    have hd9 := (u.1 185).trans hd4
    refine q_istore hG rfl rfl ?_
    refine q_aload_n hG rfl rfl ?_
    refine q_aload_n hG rfl rfl ?_
    refine q_iload hG rfl rfl ?_
    refine q_iconst (v := 1) hG rfl rfl ?_
    refine q_iadd hG rfl ?_
    refine q_iald9v (v := x1) hG rfl h20 ⟨by omega, by omega, by omega⟩ (by rw [show ((i : Int) + 1).toNat = i + 1 by omega]; exact e1) ?_
    refine q_callV6 hG rfl rfl rfl h178 (s_R_lowOf hm9 sM.1.1 hW hq r1 (fun b1 => ?_) (fun b1 => ?_))
    · have ht9 : st I 178 0 1 178 0 = 1 := st_same _ _ _ _
      have sM2 := sM.t 1
      have g : frM I (st I 178 0 1) := ((sth.refl I 178).t 1).fM
      refine q_istore hG rfl rfl ?_
      refine q_aload_n hG rfl rfl ?_
      refine q_callV6 hG rfl rfl rfl h178 (s_R_thrown hm9 ht9 ?_)
      refine q_iload hG rfl rfl ?_
      refine q_icmp_eq hG rfl ⟨by omega, by omega⟩ ⟨by omega, by omega⟩ (fun _ => ?_) (fun q => absurd (by decide) q)
      refine q_iload hG rfl rfl ?_
      refine q_if_ne hG rfl ⟨by omega, by omega⟩ (fun _ => ?_) (fun q => absurd (by decide) q)
      refine q_goto hG rfl ?_
      exact hend _ _ _ _ _ (INV.of hb hKI u sC sM2 f g (hWI.up))
    · exfalso
      first | contradiction | omega
  · have u : upB B (sJ B 184 0 (i3 (R (5 + 4 * x1.toNat + 2))).toInt64) := (upB.refl B).J (i3 (R (5 + 4 * x1.toNat + 2))).toInt64
    have hj9 : hJ (sJ B 184 0 (i3 (R (5 + 4 * x1.toNat + 2))).toInt64) 184 0 = (i3 (R (5 + 4 * x1.toNat + 2))).toInt64 := sJ_at B _
    have f : frX I I := frX.refl I
    have sC := sC0
    have sM := sM0
    have hm9 := hm.cg u.cg
    have h178 := (u.1 178).trans h178
    have h20 := (u.1 (BIG + 20)).trans h20
    have hk9 := (u.1 184).trans hk4
    have hd9 := (u.1 185).trans hd4
    refine q_istore hG rfl rfl ?_
    refine q_aload_n hG rfl rfl ?_
    refine q_aload_n hG rfl rfl ?_
    refine q_iload hG rfl rfl ?_
    refine q_iconst (v := 1) hG rfl rfl ?_
    refine q_iadd hG rfl ?_
    refine q_iald9v (v := x1) hG rfl h20 ⟨by omega, by omega, by omega⟩ (by rw [show ((i : Int) + 1).toNat = i + 1 by omega]; exact e1) ?_
    refine q_callV6 hG rfl rfl rfl h178 (s_R_lowOf hm9 sM.1.1 hW hq r1 (fun b1 => ?_) (fun b1 => ?_))
    · exfalso
      first | contradiction | omega
    · have ht9 : st I 178 0 0 178 0 = 0 := st_same _ _ _ _
      have sM2 := sM.t 0
      have g : frM I (st I 178 0 0) := ((sth.refl I 178).t 0).fM
      refine q_istore hG rfl rfl ?_
      refine q_aload_n hG rfl rfl ?_
      refine q_callV6 hG rfl rfl rfl h178 (s_R_thrown hm9 ht9 ?_)
      refine q_iload hG rfl rfl ?_
      refine q_icmp_eq hG rfl ⟨by omega, by omega⟩ ⟨by omega, by omega⟩ (fun _ => ?_) (fun q => absurd (by decide) q)
      refine q_iload hG rfl rfl ?_
      refine q_if_ne hG rfl ⟨by omega, by omega⟩ (fun q => absurd q (by decide)) (fun _ => ?_)
      refine q_aload_n hG rfl rfl ?_
      refine q_iconst (v := 0) hG rfl rfl ?_
      refine q_laldX hG rfl hk9 hj9 ?_
      refine q_iload hG rfl rfl ?_
      refine q_i2l hG rfl ?_
      refine q_lcmp_same hG rfl ?_
      refine q_if_eq hG rfl ⟨by omega, by omega⟩ (fun _ => ?_) (fun q => absurd (by decide) q)
      refine q_goto hG rfl ?_
      exact hend _ _ _ _ _ (INV.of hb hKI u sC sM2 f g (hWI.up))
set_option maxRecDepth 100000 in
theorem lc_6 {d : Nat} {Post : Out → HP → Prop} {G : Nat → LV → List Value → HP → Prop} (hG : Cl (Sp (d + 21)) md_L_law Post G) {N L : Nat} {B : HP} {I : IM} (hI : INV N L B I) (hN : N ≤ 512) {i : Nat} (hi : i + 5 ≤ L) (hL : L ≤ 2560) (hend : ∀ (B2 : HP) (K : IM) (l6 l7 l8 : Option Value), INV (N + 1) L B2 K → G 2835 [some (.ref (BIG + 20)), some (.ref 0), some (.ref 178), some (.ref 184), some (.ref 185), some (.int (i3 (i : Int))), l6, l7, l8] [] (wI B2 K)) (l6 l7 l8 : Option Value) : G 586 [some (.ref (BIG + 20)), some (.ref 0), some (.ref 178), some (.ref 184), some (.ref 185), some (.int (i3 (i : Int))), l6, l7, l8] [] (wI B I) := by
  obtain ⟨R, c, h, sv, SR, eo, why, det, cau, o, l, hb, hKI, sC0, sM0, hWI⟩ := hI
  have hb0 := hb
  obtain ⟨hX, hm, hk4, hd4, h20, hn1, hw1, hv0⟩ := hb0
  have h0 := hX.1
  have h178 := hm.1
  have hW := hWI.1
  have w0 := hW.1
  have w1 := hW.2.1
  have hq : 20000 * (N : Int) ≤ 2000000000 := by omega
  have hC := sC0.1
  have hR := hC.1
  have hrW := hWI.2.2.2.1
  obtain ⟨x1, e1⟩ : ∃ v, I (BIG + 20) (i + 1) = v := ⟨_, rfl⟩
  have r1 : r32 x1 := e1 ▸ hKI.2.2.2 (i + 1)
  have ra1 := r1.1
  have rb1 := r1.2
  refine q_aload_n hG rfl rfl ?_
  refine q_aload_n hG rfl rfl ?_
  refine q_iload hG rfl rfl ?_
  refine q_iconst (v := 1) hG rfl rfl ?_
  refine q_iadd hG rfl ?_
  refine q_iald9v (v := x1) hG rfl h20 ⟨by omega, by omega, by omega⟩ (by rw [show ((i : Int) + 1).toNat = i + 1 by omega]; exact e1) ?_
  refine q_aload_n hG rfl rfl ?_
  refine q_callS0 hG rfl rfl rfl (s_L_highOf h0 (fun P y z2 => s_X_highOf hX hR hW hq r1 (fun a1 => z2 _ _ ?_) (fun a1 => y _ _ _ hk4 ?_)))
  · have u : upB B (junk B 6) := upB.junk B
    have f : frX I I := frX.refl I
    have sC := sC0
    have sM := sM0
    have hm9 := hm.cg u.cg
    have h178 := (u.1 178).trans h178
    have h20 := (u.1 (BIG + 20)).trans h20
    have hk9 := (u.1 184).trans hk4
    have hd9 := (u.1 185).trans hd4
    refine q_istore hG rfl rfl ?_
    refine q_aload_n hG rfl rfl ?_
    refine q_aload_n hG rfl rfl ?_
    refine q_iload hG rfl rfl ?_
    refine q_iconst (v := 1) hG rfl rfl ?_
    refine q_iadd hG rfl ?_
    refine q_iald9v (v := x1) hG rfl h20 ⟨by omega, by omega, by omega⟩ (by rw [show ((i : Int) + 1).toNat = i + 1 by omega]; exact e1) ?_
    refine q_callV6 hG rfl rfl rfl h178 (s_R_highOf hm9 sM.1.1 hW hq r1 (fun b1 => ?_) (fun b1 => ?_))
    · have ht9 : st I 178 0 1 178 0 = 1 := st_same _ _ _ _
      have sM2 := sM.t 1
      have g : frM I (st I 178 0 1) := ((sth.refl I 178).t 1).fM
      refine q_istore hG rfl rfl ?_
      refine q_aload_n hG rfl rfl ?_
      refine q_callV6 hG rfl rfl rfl h178 (s_R_thrown hm9 ht9 ?_)
      refine q_iload hG rfl rfl ?_
      refine q_icmp_eq hG rfl ⟨by omega, by omega⟩ ⟨by omega, by omega⟩ (fun _ => ?_) (fun q => absurd (by decide) q)
      refine q_iload hG rfl rfl ?_
      refine q_if_ne hG rfl ⟨by omega, by omega⟩ (fun _ => ?_) (fun q => absurd (by decide) q)
      refine q_goto hG rfl ?_
      exact hend _ _ _ _ _ (INV.of hb hKI u sC sM2 f g (hWI.up))
    · exfalso
      first | contradiction | omega
  · have u : upB B (sJ B 184 0 (i3 (R (5 + 4 * x1.toNat + 3))).toInt64) := (upB.refl B).J (i3 (R (5 + 4 * x1.toNat + 3))).toInt64
    have hj9 : hJ (sJ B 184 0 (i3 (R (5 + 4 * x1.toNat + 3))).toInt64) 184 0 = (i3 (R (5 + 4 * x1.toNat + 3))).toInt64 := sJ_at B _
    have f : frX I I := frX.refl I
    have sC := sC0
    have sM := sM0
    have hm9 := hm.cg u.cg
    have h178 := (u.1 178).trans h178
    have h20 := (u.1 (BIG + 20)).trans h20
    have hk9 := (u.1 184).trans hk4
    have hd9 := (u.1 185).trans hd4
    refine q_istore hG rfl rfl ?_
    refine q_aload_n hG rfl rfl ?_
    refine q_aload_n hG rfl rfl ?_
    refine q_iload hG rfl rfl ?_
    refine q_iconst (v := 1) hG rfl rfl ?_
    refine q_iadd hG rfl ?_
    refine q_iald9v (v := x1) hG rfl h20 ⟨by omega, by omega, by omega⟩ (by rw [show ((i : Int) + 1).toNat = i + 1 by omega]; exact e1) ?_
    refine q_callV6 hG rfl rfl rfl h178 (s_R_highOf hm9 sM.1.1 hW hq r1 (fun b1 => ?_) (fun b1 => ?_))
    · exfalso
      first | contradiction | omega
    · have ht9 : st I 178 0 0 178 0 = 0 := st_same _ _ _ _
      have sM2 := sM.t 0
      have g : frM I (st I 178 0 0) := ((sth.refl I 178).t 0).fM
      refine q_istore hG rfl rfl ?_
      refine q_aload_n hG rfl rfl ?_
      refine q_callV6 hG rfl rfl rfl h178 (s_R_thrown hm9 ht9 ?_)
      refine q_iload hG rfl rfl ?_
      refine q_icmp_eq hG rfl ⟨by omega, by omega⟩ ⟨by omega, by omega⟩ (fun _ => ?_) (fun q => absurd (by decide) q)
      refine q_iload hG rfl rfl ?_
      refine q_if_ne hG rfl ⟨by omega, by omega⟩ (fun q => absurd q (by decide)) (fun _ => ?_)
      refine q_aload_n hG rfl rfl ?_
      refine q_iconst (v := 0) hG rfl rfl ?_
      refine q_laldX hG rfl hk9 hj9 ?_
      refine q_iload hG rfl rfl ?_
      refine q_i2l hG rfl ?_
      refine q_lcmp_same hG rfl ?_
      refine q_if_eq hG rfl ⟨by omega, by omega⟩ (fun _ => ?_) (fun q => absurd (by decide) q)
      refine q_goto hG rfl ?_
      exact hend _ _ _ _ _ (INV.of hb hKI u sC sM2 f g (hWI.up))
set_option maxRecDepth 100000 in
theorem lc_7 {d : Nat} {Post : Out → HP → Prop} {G : Nat → LV → List Value → HP → Prop} (hG : Cl (Sp (d + 21)) md_L_law Post G) {N L : Nat} {B : HP} {I : IM} (hI : INV N L B I) (hN : N ≤ 512) {i : Nat} (hi : i + 5 ≤ L) (hL : L ≤ 2560) (hend : ∀ (B2 : HP) (K : IM) (l6 l7 l8 : Option Value), INV (N + 1) L B2 K → G 2835 [some (.ref (BIG + 20)), some (.ref 0), some (.ref 178), some (.ref 184), some (.ref 185), some (.int (i3 (i : Int))), l6, l7, l8] [] (wI B2 K)) (l6 l7 l8 : Option Value) : G 642 [some (.ref (BIG + 20)), some (.ref 0), some (.ref 178), some (.ref 184), some (.ref 185), some (.int (i3 (i : Int))), l6, l7, l8] [] (wI B I) := by
  obtain ⟨R, c, h, sv, SR, eo, why, det, cau, o, l, hb, hKI, sC0, sM0, hWI⟩ := hI
  have hb0 := hb
  obtain ⟨hX, hm, hk4, hd4, h20, hn1, hw1, hv0⟩ := hb0
  have h0 := hX.1
  have h178 := hm.1
  have hW := hWI.1
  have w0 := hW.1
  have w1 := hW.2.1
  have hq : 20000 * (N : Int) ≤ 2000000000 := by omega
  have hC := sC0.1
  have hR := hC.1
  have hrW := hWI.2.2.2.1
  obtain ⟨x1, e1⟩ : ∃ v, I (BIG + 20) (i + 1) = v := ⟨_, rfl⟩
  have r1 : r32 x1 := e1 ▸ hKI.2.2.2 (i + 1)
  have ra1 := r1.1
  have rb1 := r1.2
  refine q_aload_n hG rfl rfl ?_
  refine q_aload_n hG rfl rfl ?_
  refine q_iload hG rfl rfl ?_
  refine q_iconst (v := 1) hG rfl rfl ?_
  refine q_iadd hG rfl ?_
  refine q_iald9v (v := x1) hG rfl h20 ⟨by omega, by omega, by omega⟩ (by rw [show ((i : Int) + 1).toNat = i + 1 by omega]; exact e1) ?_
  refine q_aload_n hG rfl rfl ?_
  refine q_callS0 hG rfl rfl rfl (s_L_frameLow h0 (fun P y z2 => s_X_frameLow hX hR hW hq r1 (fun a1 => z2 _ _ ?_) (fun a1 => y _ _ _ hk4 ?_)))
  · have u : upB B (junk B 6) := upB.junk B
    have f : frX I I := frX.refl I
    have sC := sC0
    have sM := sM0
    have hm9 := hm.cg u.cg
    have h178 := (u.1 178).trans h178
    have h20 := (u.1 (BIG + 20)).trans h20
    have hk9 := (u.1 184).trans hk4
    have hd9 := (u.1 185).trans hd4
    refine q_istore hG rfl rfl ?_
    refine q_aload_n hG rfl rfl ?_
    refine q_aload_n hG rfl rfl ?_
    refine q_iload hG rfl rfl ?_
    refine q_iconst (v := 1) hG rfl rfl ?_
    refine q_iadd hG rfl ?_
    refine q_iald9v (v := x1) hG rfl h20 ⟨by omega, by omega, by omega⟩ (by rw [show ((i : Int) + 1).toNat = i + 1 by omega]; exact e1) ?_
    refine q_callV6 hG rfl rfl rfl h178 (s_R_frameLow hm9 sM.1.1 hW hq r1 (fun b1 => ?_) (fun b1 => ?_))
    · have ht9 : st I 178 0 1 178 0 = 1 := st_same _ _ _ _
      have sM2 := sM.t 1
      have g : frM I (st I 178 0 1) := ((sth.refl I 178).t 1).fM
      refine q_istore hG rfl rfl ?_
      refine q_aload_n hG rfl rfl ?_
      refine q_callV6 hG rfl rfl rfl h178 (s_R_thrown hm9 ht9 ?_)
      refine q_iload hG rfl rfl ?_
      refine q_icmp_eq hG rfl ⟨by omega, by omega⟩ ⟨by omega, by omega⟩ (fun _ => ?_) (fun q => absurd (by decide) q)
      refine q_iload hG rfl rfl ?_
      refine q_if_ne hG rfl ⟨by omega, by omega⟩ (fun _ => ?_) (fun q => absurd (by decide) q)
      refine q_goto hG rfl ?_
      exact hend _ _ _ _ _ (INV.of hb hKI u sC sM2 f g (hWI.up))
    · exfalso
      first | contradiction | omega
  · have u : upB B (sJ B 184 0 (i3 (R (5 + 4 * x1.toNat))).toInt64) := (upB.refl B).J (i3 (R (5 + 4 * x1.toNat))).toInt64
    have hj9 : hJ (sJ B 184 0 (i3 (R (5 + 4 * x1.toNat))).toInt64) 184 0 = (i3 (R (5 + 4 * x1.toNat))).toInt64 := sJ_at B _
    have f : frX I I := frX.refl I
    have sC := sC0
    have sM := sM0
    have hm9 := hm.cg u.cg
    have h178 := (u.1 178).trans h178
    have h20 := (u.1 (BIG + 20)).trans h20
    have hk9 := (u.1 184).trans hk4
    have hd9 := (u.1 185).trans hd4
    refine q_istore hG rfl rfl ?_
    refine q_aload_n hG rfl rfl ?_
    refine q_aload_n hG rfl rfl ?_
    refine q_iload hG rfl rfl ?_
    refine q_iconst (v := 1) hG rfl rfl ?_
    refine q_iadd hG rfl ?_
    refine q_iald9v (v := x1) hG rfl h20 ⟨by omega, by omega, by omega⟩ (by rw [show ((i : Int) + 1).toNat = i + 1 by omega]; exact e1) ?_
    refine q_callV6 hG rfl rfl rfl h178 (s_R_frameLow hm9 sM.1.1 hW hq r1 (fun b1 => ?_) (fun b1 => ?_))
    · exfalso
      first | contradiction | omega
    · have ht9 : st I 178 0 0 178 0 = 0 := st_same _ _ _ _
      have sM2 := sM.t 0
      have g : frM I (st I 178 0 0) := ((sth.refl I 178).t 0).fM
      refine q_istore hG rfl rfl ?_
      refine q_aload_n hG rfl rfl ?_
      refine q_callV6 hG rfl rfl rfl h178 (s_R_thrown hm9 ht9 ?_)
      refine q_iload hG rfl rfl ?_
      refine q_icmp_eq hG rfl ⟨by omega, by omega⟩ ⟨by omega, by omega⟩ (fun _ => ?_) (fun q => absurd (by decide) q)
      refine q_iload hG rfl rfl ?_
      refine q_if_ne hG rfl ⟨by omega, by omega⟩ (fun q => absurd q (by decide)) (fun _ => ?_)
      refine q_aload_n hG rfl rfl ?_
      refine q_iconst (v := 0) hG rfl rfl ?_
      refine q_laldX hG rfl hk9 hj9 ?_
      refine q_iload hG rfl rfl ?_
      refine q_i2l hG rfl ?_
      refine q_lcmp_same hG rfl ?_
      refine q_if_eq hG rfl ⟨by omega, by omega⟩ (fun _ => ?_) (fun q => absurd (by decide) q)
      refine q_goto hG rfl ?_
      exact hend _ _ _ _ _ (INV.of hb hKI u sC sM2 f g (hWI.up))
set_option maxRecDepth 100000 in
theorem lc_8 {d : Nat} {Post : Out → HP → Prop} {G : Nat → LV → List Value → HP → Prop} (hG : Cl (Sp (d + 21)) md_L_law Post G) {N L : Nat} {B : HP} {I : IM} (hI : INV N L B I) (hN : N ≤ 512) {i : Nat} (hi : i + 5 ≤ L) (hL : L ≤ 2560) (hend : ∀ (B2 : HP) (K : IM) (l6 l7 l8 : Option Value), INV (N + 1) L B2 K → G 2835 [some (.ref (BIG + 20)), some (.ref 0), some (.ref 178), some (.ref 184), some (.ref 185), some (.int (i3 (i : Int))), l6, l7, l8] [] (wI B2 K)) (l6 l7 l8 : Option Value) : G 698 [some (.ref (BIG + 20)), some (.ref 0), some (.ref 178), some (.ref 184), some (.ref 185), some (.int (i3 (i : Int))), l6, l7, l8] [] (wI B I) := by
  obtain ⟨R, c, h, sv, SR, eo, why, det, cau, o, l, hb, hKI, sC0, sM0, hWI⟩ := hI
  have hb0 := hb
  obtain ⟨hX, hm, hk4, hd4, h20, hn1, hw1, hv0⟩ := hb0
  have h0 := hX.1
  have h178 := hm.1
  have hW := hWI.1
  have w0 := hW.1
  have w1 := hW.2.1
  have hq : 20000 * (N : Int) ≤ 2000000000 := by omega
  have hC := sC0.1
  have hR := hC.1
  have hrW := hWI.2.2.2.1
  obtain ⟨x1, e1⟩ : ∃ v, I (BIG + 20) (i + 1) = v := ⟨_, rfl⟩
  have r1 : r32 x1 := e1 ▸ hKI.2.2.2 (i + 1)
  have ra1 := r1.1
  have rb1 := r1.2
  refine q_aload_n hG rfl rfl ?_
  refine q_aload_n hG rfl rfl ?_
  refine q_iload hG rfl rfl ?_
  refine q_iconst (v := 1) hG rfl rfl ?_
  refine q_iadd hG rfl ?_
  refine q_iald9v (v := x1) hG rfl h20 ⟨by omega, by omega, by omega⟩ (by rw [show ((i : Int) + 1).toNat = i + 1 by omega]; exact e1) ?_
  refine q_aload_n hG rfl rfl ?_
  refine q_callS0 hG rfl rfl rfl (s_L_frameHigh h0 (fun P y z2 => s_X_frameHigh hX hR hW hq r1 (fun a1 => z2 _ _ ?_) (fun a1 => y _ _ _ hk4 ?_)))
  · have u : upB B (junk B 6) := upB.junk B
    have f : frX I I := frX.refl I
    have sC := sC0
    have sM := sM0
    have hm9 := hm.cg u.cg
    have h178 := (u.1 178).trans h178
    have h20 := (u.1 (BIG + 20)).trans h20
    have hk9 := (u.1 184).trans hk4
    have hd9 := (u.1 185).trans hd4
    refine q_istore hG rfl rfl ?_
    refine q_aload_n hG rfl rfl ?_
    refine q_aload_n hG rfl rfl ?_
    refine q_iload hG rfl rfl ?_
    refine q_iconst (v := 1) hG rfl rfl ?_
    refine q_iadd hG rfl ?_
    refine q_iald9v (v := x1) hG rfl h20 ⟨by omega, by omega, by omega⟩ (by rw [show ((i : Int) + 1).toNat = i + 1 by omega]; exact e1) ?_
    refine q_callV6 hG rfl rfl rfl h178 (s_R_frameHigh hm9 sM.1.1 hW hq r1 (fun b1 => ?_) (fun b1 => ?_))
    · have ht9 : st I 178 0 1 178 0 = 1 := st_same _ _ _ _
      have sM2 := sM.t 1
      have g : frM I (st I 178 0 1) := ((sth.refl I 178).t 1).fM
      refine q_istore hG rfl rfl ?_
      refine q_aload_n hG rfl rfl ?_
      refine q_callV6 hG rfl rfl rfl h178 (s_R_thrown hm9 ht9 ?_)
      refine q_iload hG rfl rfl ?_
      refine q_icmp_eq hG rfl ⟨by omega, by omega⟩ ⟨by omega, by omega⟩ (fun _ => ?_) (fun q => absurd (by decide) q)
      refine q_iload hG rfl rfl ?_
      refine q_if_ne hG rfl ⟨by omega, by omega⟩ (fun _ => ?_) (fun q => absurd (by decide) q)
      refine q_goto hG rfl ?_
      exact hend _ _ _ _ _ (INV.of hb hKI u sC sM2 f g (hWI.up))
    · exfalso
      first | contradiction | omega
  · have u : upB B (sJ B 184 0 (i3 (R (5 + 4 * x1.toNat + 1))).toInt64) := (upB.refl B).J (i3 (R (5 + 4 * x1.toNat + 1))).toInt64
    have hj9 : hJ (sJ B 184 0 (i3 (R (5 + 4 * x1.toNat + 1))).toInt64) 184 0 = (i3 (R (5 + 4 * x1.toNat + 1))).toInt64 := sJ_at B _
    have f : frX I I := frX.refl I
    have sC := sC0
    have sM := sM0
    have hm9 := hm.cg u.cg
    have h178 := (u.1 178).trans h178
    have h20 := (u.1 (BIG + 20)).trans h20
    have hk9 := (u.1 184).trans hk4
    have hd9 := (u.1 185).trans hd4
    refine q_istore hG rfl rfl ?_
    refine q_aload_n hG rfl rfl ?_
    refine q_aload_n hG rfl rfl ?_
    refine q_iload hG rfl rfl ?_
    refine q_iconst (v := 1) hG rfl rfl ?_
    refine q_iadd hG rfl ?_
    refine q_iald9v (v := x1) hG rfl h20 ⟨by omega, by omega, by omega⟩ (by rw [show ((i : Int) + 1).toNat = i + 1 by omega]; exact e1) ?_
    refine q_callV6 hG rfl rfl rfl h178 (s_R_frameHigh hm9 sM.1.1 hW hq r1 (fun b1 => ?_) (fun b1 => ?_))
    · exfalso
      first | contradiction | omega
    · have ht9 : st I 178 0 0 178 0 = 0 := st_same _ _ _ _
      have sM2 := sM.t 0
      have g : frM I (st I 178 0 0) := ((sth.refl I 178).t 0).fM
      refine q_istore hG rfl rfl ?_
      refine q_aload_n hG rfl rfl ?_
      refine q_callV6 hG rfl rfl rfl h178 (s_R_thrown hm9 ht9 ?_)
      refine q_iload hG rfl rfl ?_
      refine q_icmp_eq hG rfl ⟨by omega, by omega⟩ ⟨by omega, by omega⟩ (fun _ => ?_) (fun q => absurd (by decide) q)
      refine q_iload hG rfl rfl ?_
      refine q_if_ne hG rfl ⟨by omega, by omega⟩ (fun q => absurd q (by decide)) (fun _ => ?_)
      refine q_aload_n hG rfl rfl ?_
      refine q_iconst (v := 0) hG rfl rfl ?_
      refine q_laldX hG rfl hk9 hj9 ?_
      refine q_iload hG rfl rfl ?_
      refine q_i2l hG rfl ?_
      refine q_lcmp_same hG rfl ?_
      refine q_if_eq hG rfl ⟨by omega, by omega⟩ (fun _ => ?_) (fun q => absurd (by decide) q)
      refine q_goto hG rfl ?_
      exact hend _ _ _ _ _ (INV.of hb hKI u sC sM2 f g (hWI.up))
set_option maxRecDepth 100000 in
theorem lc_9 {d : Nat} {Post : Out → HP → Prop} {G : Nat → LV → List Value → HP → Prop} (hG : Cl (Sp (d + 21)) md_L_law Post G) {N L : Nat} {B : HP} {I : IM} (hI : INV N L B I) (hN : N ≤ 512) {i : Nat} (hi : i + 5 ≤ L) (hL : L ≤ 2560) (hend : ∀ (B2 : HP) (K : IM) (l6 l7 l8 : Option Value), INV (N + 1) L B2 K → G 2835 [some (.ref (BIG + 20)), some (.ref 0), some (.ref 178), some (.ref 184), some (.ref 185), some (.int (i3 (i : Int))), l6, l7, l8] [] (wI B2 K)) (l6 l7 l8 : Option Value) : G 754 [some (.ref (BIG + 20)), some (.ref 0), some (.ref 178), some (.ref 184), some (.ref 185), some (.int (i3 (i : Int))), l6, l7, l8] [] (wI B I) := by
  obtain ⟨R, c, h, sv, SR, eo, why, det, cau, o, l, hb, hKI, sC0, sM0, hWI⟩ := hI
  have hb0 := hb
  obtain ⟨hX, hm, hk4, hd4, h20, hn1, hw1, hv0⟩ := hb0
  have h0 := hX.1
  have h178 := hm.1
  have hW := hWI.1
  have w0 := hW.1
  have w1 := hW.2.1
  have hq : 20000 * (N : Int) ≤ 2000000000 := by omega
  have hC := sC0.1
  have hR := hC.1
  have hrW := hWI.2.2.2.1
  obtain ⟨x1, e1⟩ : ∃ v, I (BIG + 20) (i + 1) = v := ⟨_, rfl⟩
  have r1 : r32 x1 := e1 ▸ hKI.2.2.2 (i + 1)
  have ra1 := r1.1
  have rb1 := r1.2
  refine q_aload_n hG rfl rfl ?_
  refine q_aload_n hG rfl rfl ?_
  refine q_iload hG rfl rfl ?_
  refine q_iconst (v := 1) hG rfl rfl ?_
  refine q_iadd hG rfl ?_
  refine q_iald9v (v := x1) hG rfl h20 ⟨by omega, by omega, by omega⟩ (by rw [show ((i : Int) + 1).toNat = i + 1 by omega]; exact e1) ?_
  refine q_aload_n hG rfl rfl ?_
  refine q_callS0 hG rfl rfl rfl (s_L_widthOf h0 (fun P y z2 => s_X_widthOf hX hR hW hq r1 (fun a1 => z2 _ _ ?_) (fun a1 => y _ _ _ hk4 ?_)))
  · have u : upB B (junk B 6) := upB.junk B
    have f : frX I I := frX.refl I
    have sC := sC0
    have sM := sM0
    have hm9 := hm.cg u.cg
    have h178 := (u.1 178).trans h178
    have h20 := (u.1 (BIG + 20)).trans h20
    have hk9 := (u.1 184).trans hk4
    have hd9 := (u.1 185).trans hd4
    refine q_istore hG rfl rfl ?_
    refine q_aload_n hG rfl rfl ?_
    refine q_aload_n hG rfl rfl ?_
    refine q_iload hG rfl rfl ?_
    refine q_iconst (v := 1) hG rfl rfl ?_
    refine q_iadd hG rfl ?_
    refine q_iald9v (v := x1) hG rfl h20 ⟨by omega, by omega, by omega⟩ (by rw [show ((i : Int) + 1).toNat = i + 1 by omega]; exact e1) ?_
    refine q_callV6 hG rfl rfl rfl h178 (s_R_widthOf hm9 sM.1.1 hW hq r1 (fun b1 => ?_) (fun b1 => ?_))
    · have ht9 : st I 178 0 1 178 0 = 1 := st_same _ _ _ _
      have sM2 := sM.t 1
      have g : frM I (st I 178 0 1) := ((sth.refl I 178).t 1).fM
      refine q_istore hG rfl rfl ?_
      refine q_aload_n hG rfl rfl ?_
      refine q_callV6 hG rfl rfl rfl h178 (s_R_thrown hm9 ht9 ?_)
      refine q_iload hG rfl rfl ?_
      refine q_icmp_eq hG rfl ⟨by omega, by omega⟩ ⟨by omega, by omega⟩ (fun _ => ?_) (fun q => absurd (by decide) q)
      refine q_iload hG rfl rfl ?_
      refine q_if_ne hG rfl ⟨by omega, by omega⟩ (fun _ => ?_) (fun q => absurd (by decide) q)
      refine q_goto hG rfl ?_
      exact hend _ _ _ _ _ (INV.of hb hKI u sC sM2 f g (hWI.up))
    · exfalso
      first | contradiction | omega
  · have u : upB B (sJ B 184 0 (i3 (wdR R x1.toNat)).toInt64) := (upB.refl B).J (i3 (wdR R x1.toNat)).toInt64
    have hj9 : hJ (sJ B 184 0 (i3 (wdR R x1.toNat)).toInt64) 184 0 = (i3 (wdR R x1.toNat)).toInt64 := sJ_at B _
    have f : frX I I := frX.refl I
    have sC := sC0
    have sM := sM0
    have hm9 := hm.cg u.cg
    have h178 := (u.1 178).trans h178
    have h20 := (u.1 (BIG + 20)).trans h20
    have hk9 := (u.1 184).trans hk4
    have hd9 := (u.1 185).trans hd4
    refine q_istore hG rfl rfl ?_
    refine q_aload_n hG rfl rfl ?_
    refine q_aload_n hG rfl rfl ?_
    refine q_iload hG rfl rfl ?_
    refine q_iconst (v := 1) hG rfl rfl ?_
    refine q_iadd hG rfl ?_
    refine q_iald9v (v := x1) hG rfl h20 ⟨by omega, by omega, by omega⟩ (by rw [show ((i : Int) + 1).toNat = i + 1 by omega]; exact e1) ?_
    refine q_callV6 hG rfl rfl rfl h178 (s_R_widthOf hm9 sM.1.1 hW hq r1 (fun b1 => ?_) (fun b1 => ?_))
    · exfalso
      first | contradiction | omega
    · have ht9 : st I 178 0 0 178 0 = 0 := st_same _ _ _ _
      have sM2 := sM.t 0
      have g : frM I (st I 178 0 0) := ((sth.refl I 178).t 0).fM
      refine q_istore hG rfl rfl ?_
      refine q_aload_n hG rfl rfl ?_
      refine q_callV6 hG rfl rfl rfl h178 (s_R_thrown hm9 ht9 ?_)
      refine q_iload hG rfl rfl ?_
      refine q_icmp_eq hG rfl ⟨by omega, by omega⟩ ⟨by omega, by omega⟩ (fun _ => ?_) (fun q => absurd (by decide) q)
      refine q_iload hG rfl rfl ?_
      refine q_if_ne hG rfl ⟨by omega, by omega⟩ (fun q => absurd q (by decide)) (fun _ => ?_)
      refine q_aload_n hG rfl rfl ?_
      refine q_iconst (v := 0) hG rfl rfl ?_
      refine q_laldX hG rfl hk9 hj9 ?_
      refine q_iload hG rfl rfl ?_
      refine q_i2l hG rfl ?_
      refine q_lcmp_same hG rfl ?_
      refine q_if_eq hG rfl ⟨by omega, by omega⟩ (fun _ => ?_) (fun q => absurd (by decide) q)
      refine q_goto hG rfl ?_
      exact hend _ _ _ _ _ (INV.of hb hKI u sC sM2 f g (hWI.up))
set_option maxRecDepth 100000 in
theorem lc_11 {d : Nat} {Post : Out → HP → Prop} {G : Nat → LV → List Value → HP → Prop} (hG : Cl (Sp (d + 21)) md_L_law Post G) {N L : Nat} {B : HP} {I : IM} (hI : INV N L B I) (hN : N ≤ 512) {i : Nat} (hi : i + 5 ≤ L) (hL : L ≤ 2560) (hend : ∀ (B2 : HP) (K : IM) (l6 l7 l8 : Option Value), INV (N + 1) L B2 K → G 2835 [some (.ref (BIG + 20)), some (.ref 0), some (.ref 178), some (.ref 184), some (.ref 185), some (.int (i3 (i : Int))), l6, l7, l8] [] (wI B2 K)) (l6 l7 l8 : Option Value) : G 873 [some (.ref (BIG + 20)), some (.ref 0), some (.ref 178), some (.ref 184), some (.ref 185), some (.int (i3 (i : Int))), l6, l7, l8] [] (wI B I) := by
  obtain ⟨R, c, h, sv, SR, eo, why, det, cau, o, l, hb, hKI, sC0, sM0, hWI⟩ := hI
  have hb0 := hb
  obtain ⟨hX, hm, hk4, hd4, h20, hn1, hw1, hv0⟩ := hb0
  have h0 := hX.1
  have h178 := hm.1
  have hW := hWI.1
  have w0 := hW.1
  have w1 := hW.2.1
  have hq : 20000 * (N : Int) ≤ 2000000000 := by omega
  have hC := sC0.1
  have hR := hC.1
  have hrW := hWI.2.2.2.1
  obtain ⟨x1, e1⟩ : ∃ v, I (BIG + 20) (i + 1) = v := ⟨_, rfl⟩
  have r1 : r32 x1 := e1 ▸ hKI.2.2.2 (i + 1)
  have ra1 := r1.1
  have rb1 := r1.2
  refine q_aload_n hG rfl rfl ?_
  refine q_aload_n hG rfl rfl ?_
  refine q_iload hG rfl rfl ?_
  refine q_iconst (v := 1) hG rfl rfl ?_
  refine q_iadd hG rfl ?_
  refine q_iald9v (v := x1) hG rfl h20 ⟨by omega, by omega, by omega⟩ (by rw [show ((i : Int) + 1).toNat = i + 1 by omega]; exact e1) ?_
  refine q_aload_n hG rfl rfl ?_
  refine q_callS0 hG rfl rfl rfl (s_L_constraintsOf h0 (fun P y z2 => s_X_constraintsOf hX hR hW hq r1 (fun a1 => z2 _ _ ?_) (fun a1 => y _ _ _ hk4 ?_)))
  · have u : upB B (junk B 6) := upB.junk B
    have f : frX I I := frX.refl I
    have sC := sC0
    have sM := sM0
    have hm9 := hm.cg u.cg
    have h178 := (u.1 178).trans h178
    have h20 := (u.1 (BIG + 20)).trans h20
    have hk9 := (u.1 184).trans hk4
    have hd9 := (u.1 185).trans hd4
    refine q_istore hG rfl rfl ?_
    refine q_aload_n hG rfl rfl ?_
    refine q_aload_n hG rfl rfl ?_
    refine q_iload hG rfl rfl ?_
    refine q_iconst (v := 1) hG rfl rfl ?_
    refine q_iadd hG rfl ?_
    refine q_iald9v (v := x1) hG rfl h20 ⟨by omega, by omega, by omega⟩ (by rw [show ((i : Int) + 1).toNat = i + 1 by omega]; exact e1) ?_
    refine q_callV6 hG rfl rfl rfl h178 (s_R_constraintsOf hm9 sM.1.1 hW hq r1 (fun b1 => ?_) (fun b1 => ?_))
    · have ht9 : st I 178 0 1 178 0 = 1 := st_same _ _ _ _
      have sM2 := sM.t 1
      have g : frM I (st I 178 0 1) := ((sth.refl I 178).t 1).fM
      refine q_istore hG rfl rfl ?_
      refine q_aload_n hG rfl rfl ?_
      refine q_callV6 hG rfl rfl rfl h178 (s_R_thrown hm9 ht9 ?_)
      refine q_iload hG rfl rfl ?_
      refine q_icmp_eq hG rfl ⟨by omega, by omega⟩ ⟨by omega, by omega⟩ (fun _ => ?_) (fun q => absurd (by decide) q)
      refine q_iload hG rfl rfl ?_
      refine q_if_ne hG rfl ⟨by omega, by omega⟩ (fun _ => ?_) (fun q => absurd (by decide) q)
      refine q_goto hG rfl ?_
      exact hend _ _ _ _ _ (INV.of hb hKI u sC sM2 f g (hWI.up))
    · exfalso
      first | contradiction | omega
  · have u : upB B (sJ B 184 0 (i3 (tkR R x1)).toInt64) := (upB.refl B).J (i3 (tkR R x1)).toInt64
    have hj9 : hJ (sJ B 184 0 (i3 (tkR R x1)).toInt64) 184 0 = (i3 (tkR R x1)).toInt64 := sJ_at B _
    have f : frX I I := frX.refl I
    have sC := sC0
    have sM := sM0
    have hm9 := hm.cg u.cg
    have h178 := (u.1 178).trans h178
    have h20 := (u.1 (BIG + 20)).trans h20
    have hk9 := (u.1 184).trans hk4
    have hd9 := (u.1 185).trans hd4
    refine q_istore hG rfl rfl ?_
    refine q_aload_n hG rfl rfl ?_
    refine q_aload_n hG rfl rfl ?_
    refine q_iload hG rfl rfl ?_
    refine q_iconst (v := 1) hG rfl rfl ?_
    refine q_iadd hG rfl ?_
    refine q_iald9v (v := x1) hG rfl h20 ⟨by omega, by omega, by omega⟩ (by rw [show ((i : Int) + 1).toNat = i + 1 by omega]; exact e1) ?_
    refine q_callV6 hG rfl rfl rfl h178 (s_R_constraintsOf hm9 sM.1.1 hW hq r1 (fun b1 => ?_) (fun b1 => ?_))
    · exfalso
      first | contradiction | omega
    · have ht9 : st I 178 0 0 178 0 = 0 := st_same _ _ _ _
      have sM2 := sM.t 0
      have g : frM I (st I 178 0 0) := ((sth.refl I 178).t 0).fM
      refine q_istore hG rfl rfl ?_
      refine q_aload_n hG rfl rfl ?_
      refine q_callV6 hG rfl rfl rfl h178 (s_R_thrown hm9 ht9 ?_)
      refine q_iload hG rfl rfl ?_
      refine q_icmp_eq hG rfl ⟨by omega, by omega⟩ ⟨by omega, by omega⟩ (fun _ => ?_) (fun q => absurd (by decide) q)
      refine q_iload hG rfl rfl ?_
      refine q_if_ne hG rfl ⟨by omega, by omega⟩ (fun q => absurd q (by decide)) (fun _ => ?_)
      refine q_aload_n hG rfl rfl ?_
      refine q_iconst (v := 0) hG rfl rfl ?_
      refine q_laldX hG rfl hk9 hj9 ?_
      refine q_iload hG rfl rfl ?_
      refine q_i2l hG rfl ?_
      refine q_lcmp_same hG rfl ?_
      refine q_if_eq hG rfl ⟨by omega, by omega⟩ (fun _ => ?_) (fun q => absurd (by decide) q)
      refine q_goto hG rfl ?_
      exact hend _ _ _ _ _ (INV.of hb hKI u sC sM2 f g (hWI.up))
set_option maxRecDepth 100000 in
theorem lc_15 {d : Nat} {Post : Out → HP → Prop} {G : Nat → LV → List Value → HP → Prop} (hG : Cl (Sp (d + 21)) md_L_law Post G) {N L : Nat} {B : HP} {I : IM} (hI : INV N L B I) (hN : N ≤ 512) {i : Nat} (hi : i + 5 ≤ L) (hL : L ≤ 2560) (hend : ∀ (B2 : HP) (K : IM) (l6 l7 l8 : Option Value), INV (N + 1) L B2 K → G 2835 [some (.ref (BIG + 20)), some (.ref 0), some (.ref 178), some (.ref 184), some (.ref 185), some (.int (i3 (i : Int))), l6, l7, l8] [] (wI B2 K)) (l6 l7 l8 : Option Value) : G 1092 [some (.ref (BIG + 20)), some (.ref 0), some (.ref 178), some (.ref 184), some (.ref 185), some (.int (i3 (i : Int))), l6, l7, l8] [] (wI B I) := by
  obtain ⟨R, c, h, sv, SR, eo, why, det, cau, o, l, hb, hKI, sC0, sM0, hWI⟩ := hI
  have hb0 := hb
  obtain ⟨hX, hm, hk4, hd4, h20, hn1, hw1, hv0⟩ := hb0
  have h0 := hX.1
  have h178 := hm.1
  have hW := hWI.1
  have w0 := hW.1
  have w1 := hW.2.1
  have hq : 20000 * (N : Int) ≤ 2000000000 := by omega
  have hC := sC0.1
  have hR := hC.1
  have hrW := hWI.2.2.2.1
  obtain ⟨x1, e1⟩ : ∃ v, I (BIG + 20) (i + 1) = v := ⟨_, rfl⟩
  have r1 : r32 x1 := e1 ▸ hKI.2.2.2 (i + 1)
  have ra1 := r1.1
  have rb1 := r1.2
  refine q_aload_n hG rfl rfl ?_
  refine q_aload_n hG rfl rfl ?_
  refine q_iload hG rfl rfl ?_
  refine q_iconst (v := 1) hG rfl rfl ?_
  refine q_iadd hG rfl ?_
  refine q_iald9v (v := x1) hG rfl h20 ⟨by omega, by omega, by omega⟩ (by rw [show ((i : Int) + 1).toNat = i + 1 by omega]; exact e1) ?_
  refine q_aload_n hG rfl rfl ?_
  refine q_callS0 hG rfl rfl rfl (s_L_constraintAt h0 (fun P y z3 => s_X_constraintAt hX hR hW hq r1 (fun a1 => z3 _ _ ?_) (fun a1 => y _ _ _ hk4 ?_)))
  · have u : upB B (junk B 6) := upB.junk B
    have f : frX I I := frX.refl I
    have sC := sC0
    have sM := sM0
    have hm9 := hm.cg u.cg
    have h178 := (u.1 178).trans h178
    have h20 := (u.1 (BIG + 20)).trans h20
    have hk9 := (u.1 184).trans hk4
    have hd9 := (u.1 185).trans hd4
    refine q_istore hG rfl rfl ?_
    refine q_aload_n hG rfl rfl ?_
    refine q_aload_n hG rfl rfl ?_
    refine q_iload hG rfl rfl ?_
    refine q_iconst (v := 1) hG rfl rfl ?_
    refine q_iadd hG rfl ?_
    refine q_iald9v (v := x1) hG rfl h20 ⟨by omega, by omega, by omega⟩ (by rw [show ((i : Int) + 1).toNat = i + 1 by omega]; exact e1) ?_
    refine q_callV6 hG rfl rfl rfl h178 (s_R_constraintAt hm9 sM.1.1 hW hq r1 (fun b1 => ?_) (fun b1 => ?_))
    · have ht9 : st I 178 0 1 178 0 = 1 := st_same _ _ _ _
      have sM2 := sM.t 1
      have g : frM I (st I 178 0 1) := ((sth.refl I 178).t 1).fM
      refine q_istore hG rfl rfl ?_
      refine q_aload_n hG rfl rfl ?_
      refine q_callV6 hG rfl rfl rfl h178 (s_R_thrown hm9 ht9 ?_)
      refine q_iload hG rfl rfl ?_
      refine q_icmp_eq hG rfl ⟨by omega, by omega⟩ ⟨by omega, by omega⟩ (fun _ => ?_) (fun q => absurd (by decide) q)
      refine q_iload hG rfl rfl ?_
      refine q_if_ne hG rfl ⟨by omega, by omega⟩ (fun _ => ?_) (fun q => absurd (by decide) q)
      refine q_goto hG rfl ?_
      exact hend _ _ _ _ _ (INV.of hb hKI u sC sM2 f g (hWI.up))
    · exfalso
      first | contradiction | omega
  · have u : upB B (sJ B 184 0 (i3 (R (29 + 5 * x1.toNat))).toInt64) := (upB.refl B).J (i3 (R (29 + 5 * x1.toNat))).toInt64
    have hj9 : hJ (sJ B 184 0 (i3 (R (29 + 5 * x1.toNat))).toInt64) 184 0 = (i3 (R (29 + 5 * x1.toNat))).toInt64 := sJ_at B _
    have f : frX I I := frX.refl I
    have sC := sC0
    have sM := sM0
    have hm9 := hm.cg u.cg
    have h178 := (u.1 178).trans h178
    have h20 := (u.1 (BIG + 20)).trans h20
    have hk9 := (u.1 184).trans hk4
    have hd9 := (u.1 185).trans hd4
    refine q_istore hG rfl rfl ?_
    refine q_aload_n hG rfl rfl ?_
    refine q_aload_n hG rfl rfl ?_
    refine q_iload hG rfl rfl ?_
    refine q_iconst (v := 1) hG rfl rfl ?_
    refine q_iadd hG rfl ?_
    refine q_iald9v (v := x1) hG rfl h20 ⟨by omega, by omega, by omega⟩ (by rw [show ((i : Int) + 1).toNat = i + 1 by omega]; exact e1) ?_
    refine q_callV6 hG rfl rfl rfl h178 (s_R_constraintAt hm9 sM.1.1 hW hq r1 (fun b1 => ?_) (fun b1 => ?_))
    · exfalso
      first | contradiction | omega
    · have ht9 : st I 178 0 0 178 0 = 0 := st_same _ _ _ _
      have sM2 := sM.t 0
      have g : frM I (st I 178 0 0) := ((sth.refl I 178).t 0).fM
      refine q_istore hG rfl rfl ?_
      refine q_aload_n hG rfl rfl ?_
      refine q_callV6 hG rfl rfl rfl h178 (s_R_thrown hm9 ht9 ?_)
      refine q_iload hG rfl rfl ?_
      refine q_icmp_eq hG rfl ⟨by omega, by omega⟩ ⟨by omega, by omega⟩ (fun _ => ?_) (fun q => absurd (by decide) q)
      refine q_iload hG rfl rfl ?_
      refine q_if_ne hG rfl ⟨by omega, by omega⟩ (fun q => absurd q (by decide)) (fun _ => ?_)
      refine q_aload_n hG rfl rfl ?_
      refine q_iconst (v := 0) hG rfl rfl ?_
      refine q_laldX hG rfl hk9 hj9 ?_
      refine q_iload hG rfl rfl ?_
      refine q_i2l hG rfl ?_
      refine q_lcmp_same hG rfl ?_
      refine q_if_eq hG rfl ⟨by omega, by omega⟩ (fun _ => ?_) (fun q => absurd (by decide) q)
      refine q_goto hG rfl ?_
      exact hend _ _ _ _ _ (INV.of hb hKI u sC sM2 f g (hWI.up))
set_option maxRecDepth 100000 in
theorem lc_16 {d : Nat} {Post : Out → HP → Prop} {G : Nat → LV → List Value → HP → Prop} (hG : Cl (Sp (d + 21)) md_L_law Post G) {N L : Nat} {B : HP} {I : IM} (hI : INV N L B I) (hN : N ≤ 512) {i : Nat} (hi : i + 5 ≤ L) (hL : L ≤ 2560) (hend : ∀ (B2 : HP) (K : IM) (l6 l7 l8 : Option Value), INV (N + 1) L B2 K → G 2835 [some (.ref (BIG + 20)), some (.ref 0), some (.ref 178), some (.ref 184), some (.ref 185), some (.int (i3 (i : Int))), l6, l7, l8] [] (wI B2 K)) (l6 l7 l8 : Option Value) : G 1148 [some (.ref (BIG + 20)), some (.ref 0), some (.ref 178), some (.ref 184), some (.ref 185), some (.int (i3 (i : Int))), l6, l7, l8] [] (wI B I) := by
  obtain ⟨R, c, h, sv, SR, eo, why, det, cau, o, l, hb, hKI, sC0, sM0, hWI⟩ := hI
  have hb0 := hb
  obtain ⟨hX, hm, hk4, hd4, h20, hn1, hw1, hv0⟩ := hb0
  have h0 := hX.1
  have h178 := hm.1
  have hW := hWI.1
  have w0 := hW.1
  have w1 := hW.2.1
  have hq : 20000 * (N : Int) ≤ 2000000000 := by omega
  have hC := sC0.1
  have hR := hC.1
  have hrW := hWI.2.2.2.1
  obtain ⟨x1, e1⟩ : ∃ v, I (BIG + 20) (i + 1) = v := ⟨_, rfl⟩
  have r1 : r32 x1 := e1 ▸ hKI.2.2.2 (i + 1)
  have ra1 := r1.1
  have rb1 := r1.2
  refine q_aload_n hG rfl rfl ?_
  refine q_aload_n hG rfl rfl ?_
  refine q_iload hG rfl rfl ?_
  refine q_iconst (v := 1) hG rfl rfl ?_
  refine q_iadd hG rfl ?_
  refine q_iald9v (v := x1) hG rfl h20 ⟨by omega, by omega, by omega⟩ (by rw [show ((i : Int) + 1).toNat = i + 1 by omega]; exact e1) ?_
  refine q_aload_n hG rfl rfl ?_
  refine q_callS0 hG rfl rfl rfl (s_L_kindOf h0 (fun P y z3 => s_X_kindOf hX hR hW hq r1 (fun a1 => z3 _ _ ?_) (fun p a1 => y _ _ _ hk4 ?_)))
  · have u : upB B (junk B 6) := upB.junk B
    have f : frX I I := frX.refl I
    have sC := sC0
    have sM := sM0
    have hm9 := hm.cg u.cg
    have h178 := (u.1 178).trans h178
    have h20 := (u.1 (BIG + 20)).trans h20
    have hk9 := (u.1 184).trans hk4
    have hd9 := (u.1 185).trans hd4
    refine q_istore hG rfl rfl ?_
    refine q_aload_n hG rfl rfl ?_
    refine q_aload_n hG rfl rfl ?_
    refine q_iload hG rfl rfl ?_
    refine q_iconst (v := 1) hG rfl rfl ?_
    refine q_iadd hG rfl ?_
    refine q_iald9v (v := x1) hG rfl h20 ⟨by omega, by omega, by omega⟩ (by rw [show ((i : Int) + 1).toNat = i + 1 by omega]; exact e1) ?_
    refine q_callV6 hG rfl rfl rfl h178 (s_R_kindOf hm9 sM.1.1 hW hq r1 (fun b1 => ?_) (fun p2 b1 => ?_))
    · have ht9 : st I 178 0 1 178 0 = 1 := st_same _ _ _ _
      have sM2 := sM.t 1
      have g : frM I (st I 178 0 1) := ((sth.refl I 178).t 1).fM
      refine q_istore hG rfl rfl ?_
      refine q_aload_n hG rfl rfl ?_
      refine q_callV6 hG rfl rfl rfl h178 (s_R_thrown hm9 ht9 ?_)
      refine q_iload hG rfl rfl ?_
      refine q_icmp_eq hG rfl ⟨by omega, by omega⟩ ⟨by omega, by omega⟩ (fun _ => ?_) (fun q => absurd (by decide) q)
      refine q_iload hG rfl rfl ?_
      refine q_if_ne hG rfl ⟨by omega, by omega⟩ (fun _ => ?_) (fun q => absurd (by decide) q)
      refine q_goto hG rfl ?_
      exact hend _ _ _ _ _ (INV.of hb hKI u sC sM2 f g (hWI.up))
    · exfalso
      exact a1 p2 b1.1 b1.2.1
  · have u : upB B (sJ B 184 0 (i3 (R (29 + 5 * p + 1))).toInt64) := (upB.refl B).J (i3 (R (29 + 5 * p + 1))).toInt64
    have hj9 : hJ (sJ B 184 0 (i3 (R (29 + 5 * p + 1))).toInt64) 184 0 = (i3 (R (29 + 5 * p + 1))).toInt64 := sJ_at B _
    have f : frX I I := frX.refl I
    have sC := sC0
    have sM := sM0
    have hm9 := hm.cg u.cg
    have h178 := (u.1 178).trans h178
    have h20 := (u.1 (BIG + 20)).trans h20
    have hk9 := (u.1 184).trans hk4
    have hd9 := (u.1 185).trans hd4
    refine q_istore hG rfl rfl ?_
    refine q_aload_n hG rfl rfl ?_
    refine q_aload_n hG rfl rfl ?_
    refine q_iload hG rfl rfl ?_
    refine q_iconst (v := 1) hG rfl rfl ?_
    refine q_iadd hG rfl ?_
    refine q_iald9v (v := x1) hG rfl h20 ⟨by omega, by omega, by omega⟩ (by rw [show ((i : Int) + 1).toNat = i + 1 by omega]; exact e1) ?_
    refine q_callV6 hG rfl rfl rfl h178 (s_R_kindOf hm9 sM.1.1 hW hq r1 (fun b1 => ?_) (fun p2 b1 => ?_))
    · exfalso
      exact b1 p a1.1 a1.2.1
    · have ep := fst_u a1 b1
      subst ep
      have ht9 : st I 178 0 0 178 0 = 0 := st_same _ _ _ _
      have sM2 := sM.t 0
      have g : frM I (st I 178 0 0) := ((sth.refl I 178).t 0).fM
      refine q_istore hG rfl rfl ?_
      refine q_aload_n hG rfl rfl ?_
      refine q_callV6 hG rfl rfl rfl h178 (s_R_thrown hm9 ht9 ?_)
      refine q_iload hG rfl rfl ?_
      refine q_icmp_eq hG rfl ⟨by omega, by omega⟩ ⟨by omega, by omega⟩ (fun _ => ?_) (fun q => absurd (by decide) q)
      refine q_iload hG rfl rfl ?_
      refine q_if_ne hG rfl ⟨by omega, by omega⟩ (fun q => absurd q (by decide)) (fun _ => ?_)
      refine q_aload_n hG rfl rfl ?_
      refine q_iconst (v := 0) hG rfl rfl ?_
      refine q_laldX hG rfl hk9 hj9 ?_
      refine q_iload hG rfl rfl ?_
      refine q_i2l hG rfl ?_
      refine q_lcmp_same hG rfl ?_
      refine q_if_eq hG rfl ⟨by omega, by omega⟩ (fun _ => ?_) (fun q => absurd (by decide) q)
      refine q_goto hG rfl ?_
      exact hend _ _ _ _ _ (INV.of hb hKI u sC sM2 f g (hWI.up))
set_option maxRecDepth 100000 in
theorem lc_17 {d : Nat} {Post : Out → HP → Prop} {G : Nat → LV → List Value → HP → Prop} (hG : Cl (Sp (d + 21)) md_L_law Post G) {N L : Nat} {B : HP} {I : IM} (hI : INV N L B I) (hN : N ≤ 512) {i : Nat} (hi : i + 5 ≤ L) (hL : L ≤ 2560) (hend : ∀ (B2 : HP) (K : IM) (l6 l7 l8 : Option Value), INV (N + 1) L B2 K → G 2835 [some (.ref (BIG + 20)), some (.ref 0), some (.ref 178), some (.ref 184), some (.ref 185), some (.int (i3 (i : Int))), l6, l7, l8] [] (wI B2 K)) (l6 l7 l8 : Option Value) : G 1204 [some (.ref (BIG + 20)), some (.ref 0), some (.ref 178), some (.ref 184), some (.ref 185), some (.int (i3 (i : Int))), l6, l7, l8] [] (wI B I) := by
  obtain ⟨R, c, h, sv, SR, eo, why, det, cau, o, l, hb, hKI, sC0, sM0, hWI⟩ := hI
  have hb0 := hb
  obtain ⟨hX, hm, hk4, hd4, h20, hn1, hw1, hv0⟩ := hb0
  have h0 := hX.1
  have h178 := hm.1
  have hW := hWI.1
  have w0 := hW.1
  have w1 := hW.2.1
  have hq : 20000 * (N : Int) ≤ 2000000000 := by omega
  have hC := sC0.1
  have hR := hC.1
  have hrW := hWI.2.2.2.1
  obtain ⟨x1, e1⟩ : ∃ v, I (BIG + 20) (i + 1) = v := ⟨_, rfl⟩
  have r1 : r32 x1 := e1 ▸ hKI.2.2.2 (i + 1)
  have ra1 := r1.1
  have rb1 := r1.2
  refine q_aload_n hG rfl rfl ?_
  refine q_aload_n hG rfl rfl ?_
  refine q_iload hG rfl rfl ?_
  refine q_iconst (v := 1) hG rfl rfl ?_
  refine q_iadd hG rfl ?_
  refine q_iald9v (v := x1) hG rfl h20 ⟨by omega, by omega, by omega⟩ (by rw [show ((i : Int) + 1).toNat = i + 1 by omega]; exact e1) ?_
  refine q_aload_n hG rfl rfl ?_
  refine q_callS0 hG rfl rfl rfl (s_L_firstOf h0 (fun P y z3 => s_X_firstOf hX hR hW hq r1 (fun a1 => z3 _ _ ?_) (fun p a1 => y _ _ _ hk4 ?_)))
  · have u : upB B (junk B 6) := upB.junk B
    have f : frX I I := frX.refl I
    have sC := sC0
    have sM := sM0
    have hm9 := hm.cg u.cg
    have h178 := (u.1 178).trans h178
    have h20 := (u.1 (BIG + 20)).trans h20
    have hk9 := (u.1 184).trans hk4
    have hd9 := (u.1 185).trans hd4
    refine q_istore hG rfl rfl ?_
    refine q_aload_n hG rfl rfl ?_
    refine q_aload_n hG rfl rfl ?_
    refine q_iload hG rfl rfl ?_
    refine q_iconst (v := 1) hG rfl rfl ?_
    refine q_iadd hG rfl ?_
    refine q_iald9v (v := x1) hG rfl h20 ⟨by omega, by omega, by omega⟩ (by rw [show ((i : Int) + 1).toNat = i + 1 by omega]; exact e1) ?_
    refine q_callV6 hG rfl rfl rfl h178 (s_R_firstOf hm9 sM.1.1 hW hq r1 (fun b1 => ?_) (fun p2 b1 => ?_))
    · have ht9 : st I 178 0 1 178 0 = 1 := st_same _ _ _ _
      have sM2 := sM.t 1
      have g : frM I (st I 178 0 1) := ((sth.refl I 178).t 1).fM
      refine q_istore hG rfl rfl ?_
      refine q_aload_n hG rfl rfl ?_
      refine q_callV6 hG rfl rfl rfl h178 (s_R_thrown hm9 ht9 ?_)
      refine q_iload hG rfl rfl ?_
      refine q_icmp_eq hG rfl ⟨by omega, by omega⟩ ⟨by omega, by omega⟩ (fun _ => ?_) (fun q => absurd (by decide) q)
      refine q_iload hG rfl rfl ?_
      refine q_if_ne hG rfl ⟨by omega, by omega⟩ (fun _ => ?_) (fun q => absurd (by decide) q)
      refine q_goto hG rfl ?_
      exact hend _ _ _ _ _ (INV.of hb hKI u sC sM2 f g (hWI.up))
    · exfalso
      exact a1 p2 b1.1 b1.2.1
  · have u : upB B (sJ B 184 0 (i3 (R (29 + 5 * p + 2))).toInt64) := (upB.refl B).J (i3 (R (29 + 5 * p + 2))).toInt64
    have hj9 : hJ (sJ B 184 0 (i3 (R (29 + 5 * p + 2))).toInt64) 184 0 = (i3 (R (29 + 5 * p + 2))).toInt64 := sJ_at B _
    have f : frX I I := frX.refl I
    have sC := sC0
    have sM := sM0
    have hm9 := hm.cg u.cg
    have h178 := (u.1 178).trans h178
    have h20 := (u.1 (BIG + 20)).trans h20
    have hk9 := (u.1 184).trans hk4
    have hd9 := (u.1 185).trans hd4
    refine q_istore hG rfl rfl ?_
    refine q_aload_n hG rfl rfl ?_
    refine q_aload_n hG rfl rfl ?_
    refine q_iload hG rfl rfl ?_
    refine q_iconst (v := 1) hG rfl rfl ?_
    refine q_iadd hG rfl ?_
    refine q_iald9v (v := x1) hG rfl h20 ⟨by omega, by omega, by omega⟩ (by rw [show ((i : Int) + 1).toNat = i + 1 by omega]; exact e1) ?_
    refine q_callV6 hG rfl rfl rfl h178 (s_R_firstOf hm9 sM.1.1 hW hq r1 (fun b1 => ?_) (fun p2 b1 => ?_))
    · exfalso
      exact b1 p a1.1 a1.2.1
    · have ep := fst_u a1 b1
      subst ep
      have ht9 : st I 178 0 0 178 0 = 0 := st_same _ _ _ _
      have sM2 := sM.t 0
      have g : frM I (st I 178 0 0) := ((sth.refl I 178).t 0).fM
      refine q_istore hG rfl rfl ?_
      refine q_aload_n hG rfl rfl ?_
      refine q_callV6 hG rfl rfl rfl h178 (s_R_thrown hm9 ht9 ?_)
      refine q_iload hG rfl rfl ?_
      refine q_icmp_eq hG rfl ⟨by omega, by omega⟩ ⟨by omega, by omega⟩ (fun _ => ?_) (fun q => absurd (by decide) q)
      refine q_iload hG rfl rfl ?_
      refine q_if_ne hG rfl ⟨by omega, by omega⟩ (fun q => absurd q (by decide)) (fun _ => ?_)
      refine q_aload_n hG rfl rfl ?_
      refine q_iconst (v := 0) hG rfl rfl ?_
      refine q_laldX hG rfl hk9 hj9 ?_
      refine q_iload hG rfl rfl ?_
      refine q_i2l hG rfl ?_
      refine q_lcmp_same hG rfl ?_
      refine q_if_eq hG rfl ⟨by omega, by omega⟩ (fun _ => ?_) (fun q => absurd (by decide) q)
      refine q_goto hG rfl ?_
      exact hend _ _ _ _ _ (INV.of hb hKI u sC sM2 f g (hWI.up))
set_option maxRecDepth 100000 in
theorem lc_18 {d : Nat} {Post : Out → HP → Prop} {G : Nat → LV → List Value → HP → Prop} (hG : Cl (Sp (d + 21)) md_L_law Post G) {N L : Nat} {B : HP} {I : IM} (hI : INV N L B I) (hN : N ≤ 512) {i : Nat} (hi : i + 5 ≤ L) (hL : L ≤ 2560) (hend : ∀ (B2 : HP) (K : IM) (l6 l7 l8 : Option Value), INV (N + 1) L B2 K → G 2835 [some (.ref (BIG + 20)), some (.ref 0), some (.ref 178), some (.ref 184), some (.ref 185), some (.int (i3 (i : Int))), l6, l7, l8] [] (wI B2 K)) (l6 l7 l8 : Option Value) : G 1260 [some (.ref (BIG + 20)), some (.ref 0), some (.ref 178), some (.ref 184), some (.ref 185), some (.int (i3 (i : Int))), l6, l7, l8] [] (wI B I) := by
  obtain ⟨R, c, h, sv, SR, eo, why, det, cau, o, l, hb, hKI, sC0, sM0, hWI⟩ := hI
  have hb0 := hb
  obtain ⟨hX, hm, hk4, hd4, h20, hn1, hw1, hv0⟩ := hb0
  have h0 := hX.1
  have h178 := hm.1
  have hW := hWI.1
  have w0 := hW.1
  have w1 := hW.2.1
  have hq : 20000 * (N : Int) ≤ 2000000000 := by omega
  have hC := sC0.1
  have hR := hC.1
  have hrW := hWI.2.2.2.1
  obtain ⟨x1, e1⟩ : ∃ v, I (BIG + 20) (i + 1) = v := ⟨_, rfl⟩
  have r1 : r32 x1 := e1 ▸ hKI.2.2.2 (i + 1)
  have ra1 := r1.1
  have rb1 := r1.2
  refine q_aload_n hG rfl rfl ?_
  refine q_aload_n hG rfl rfl ?_
  refine q_iload hG rfl rfl ?_
  refine q_iconst (v := 1) hG rfl rfl ?_
  refine q_iadd hG rfl ?_
  refine q_iald9v (v := x1) hG rfl h20 ⟨by omega, by omega, by omega⟩ (by rw [show ((i : Int) + 1).toNat = i + 1 by omega]; exact e1) ?_
  refine q_aload_n hG rfl rfl ?_
  refine q_callS0 hG rfl rfl rfl (s_L_secondOf h0 (fun P y z3 => s_X_secondOf hX hR hW hq r1 (fun a1 => z3 _ _ ?_) (fun p a1 => y _ _ _ hk4 ?_)))
  · have u : upB B (junk B 6) := upB.junk B
    have f : frX I I := frX.refl I
    have sC := sC0
    have sM := sM0
    have hm9 := hm.cg u.cg
    have h178 := (u.1 178).trans h178
    have h20 := (u.1 (BIG + 20)).trans h20
    have hk9 := (u.1 184).trans hk4
    have hd9 := (u.1 185).trans hd4
    refine q_istore hG rfl rfl ?_
    refine q_aload_n hG rfl rfl ?_
    refine q_aload_n hG rfl rfl ?_
    refine q_iload hG rfl rfl ?_
    refine q_iconst (v := 1) hG rfl rfl ?_
    refine q_iadd hG rfl ?_
    refine q_iald9v (v := x1) hG rfl h20 ⟨by omega, by omega, by omega⟩ (by rw [show ((i : Int) + 1).toNat = i + 1 by omega]; exact e1) ?_
    refine q_callV6 hG rfl rfl rfl h178 (s_R_secondOf hm9 sM.1.1 hW hq r1 (fun b1 => ?_) (fun p2 b1 => ?_))
    · have ht9 : st I 178 0 1 178 0 = 1 := st_same _ _ _ _
      have sM2 := sM.t 1
      have g : frM I (st I 178 0 1) := ((sth.refl I 178).t 1).fM
      refine q_istore hG rfl rfl ?_
      refine q_aload_n hG rfl rfl ?_
      refine q_callV6 hG rfl rfl rfl h178 (s_R_thrown hm9 ht9 ?_)
      refine q_iload hG rfl rfl ?_
      refine q_icmp_eq hG rfl ⟨by omega, by omega⟩ ⟨by omega, by omega⟩ (fun _ => ?_) (fun q => absurd (by decide) q)
      refine q_iload hG rfl rfl ?_
      refine q_if_ne hG rfl ⟨by omega, by omega⟩ (fun _ => ?_) (fun q => absurd (by decide) q)
      refine q_goto hG rfl ?_
      exact hend _ _ _ _ _ (INV.of hb hKI u sC sM2 f g (hWI.up))
    · exfalso
      exact a1 p2 b1.1 b1.2.1
  · have u : upB B (sJ B 184 0 (i3 (R (29 + 5 * p + 3))).toInt64) := (upB.refl B).J (i3 (R (29 + 5 * p + 3))).toInt64
    have hj9 : hJ (sJ B 184 0 (i3 (R (29 + 5 * p + 3))).toInt64) 184 0 = (i3 (R (29 + 5 * p + 3))).toInt64 := sJ_at B _
    have f : frX I I := frX.refl I
    have sC := sC0
    have sM := sM0
    have hm9 := hm.cg u.cg
    have h178 := (u.1 178).trans h178
    have h20 := (u.1 (BIG + 20)).trans h20
    have hk9 := (u.1 184).trans hk4
    have hd9 := (u.1 185).trans hd4
    refine q_istore hG rfl rfl ?_
    refine q_aload_n hG rfl rfl ?_
    refine q_aload_n hG rfl rfl ?_
    refine q_iload hG rfl rfl ?_
    refine q_iconst (v := 1) hG rfl rfl ?_
    refine q_iadd hG rfl ?_
    refine q_iald9v (v := x1) hG rfl h20 ⟨by omega, by omega, by omega⟩ (by rw [show ((i : Int) + 1).toNat = i + 1 by omega]; exact e1) ?_
    refine q_callV6 hG rfl rfl rfl h178 (s_R_secondOf hm9 sM.1.1 hW hq r1 (fun b1 => ?_) (fun p2 b1 => ?_))
    · exfalso
      exact b1 p a1.1 a1.2.1
    · have ep := fst_u a1 b1
      subst ep
      have ht9 : st I 178 0 0 178 0 = 0 := st_same _ _ _ _
      have sM2 := sM.t 0
      have g : frM I (st I 178 0 0) := ((sth.refl I 178).t 0).fM
      refine q_istore hG rfl rfl ?_
      refine q_aload_n hG rfl rfl ?_
      refine q_callV6 hG rfl rfl rfl h178 (s_R_thrown hm9 ht9 ?_)
      refine q_iload hG rfl rfl ?_
      refine q_icmp_eq hG rfl ⟨by omega, by omega⟩ ⟨by omega, by omega⟩ (fun _ => ?_) (fun q => absurd (by decide) q)
      refine q_iload hG rfl rfl ?_
      refine q_if_ne hG rfl ⟨by omega, by omega⟩ (fun q => absurd q (by decide)) (fun _ => ?_)
      refine q_aload_n hG rfl rfl ?_
      refine q_iconst (v := 0) hG rfl rfl ?_
      refine q_laldX hG rfl hk9 hj9 ?_
      refine q_iload hG rfl rfl ?_
      refine q_i2l hG rfl ?_
      refine q_lcmp_same hG rfl ?_
      refine q_if_eq hG rfl ⟨by omega, by omega⟩ (fun _ => ?_) (fun q => absurd (by decide) q)
      refine q_goto hG rfl ?_
      exact hend _ _ _ _ _ (INV.of hb hKI u sC sM2 f g (hWI.up))
set_option maxRecDepth 100000 in
theorem lc_19 {d : Nat} {Post : Out → HP → Prop} {G : Nat → LV → List Value → HP → Prop} (hG : Cl (Sp (d + 21)) md_L_law Post G) {N L : Nat} {B : HP} {I : IM} (hI : INV N L B I) (hN : N ≤ 512) {i : Nat} (hi : i + 5 ≤ L) (hL : L ≤ 2560) (hend : ∀ (B2 : HP) (K : IM) (l6 l7 l8 : Option Value), INV (N + 1) L B2 K → G 2835 [some (.ref (BIG + 20)), some (.ref 0), some (.ref 178), some (.ref 184), some (.ref 185), some (.int (i3 (i : Int))), l6, l7, l8] [] (wI B2 K)) (l6 l7 l8 : Option Value) : G 1316 [some (.ref (BIG + 20)), some (.ref 0), some (.ref 178), some (.ref 184), some (.ref 185), some (.int (i3 (i : Int))), l6, l7, l8] [] (wI B I) := by
  obtain ⟨R, c, h, sv, SR, eo, why, det, cau, o, l, hb, hKI, sC0, sM0, hWI⟩ := hI
  have hb0 := hb
  obtain ⟨hX, hm, hk4, hd4, h20, hn1, hw1, hv0⟩ := hb0
  have h0 := hX.1
  have h178 := hm.1
  have hW := hWI.1
  have w0 := hW.1
  have w1 := hW.2.1
  have hq : 20000 * (N : Int) ≤ 2000000000 := by omega
  have hC := sC0.1
  have hR := hC.1
  have hrW := hWI.2.2.2.1
  obtain ⟨x1, e1⟩ : ∃ v, I (BIG + 20) (i + 1) = v := ⟨_, rfl⟩
  have r1 : r32 x1 := e1 ▸ hKI.2.2.2 (i + 1)
  have ra1 := r1.1
  have rb1 := r1.2
  refine q_aload_n hG rfl rfl ?_
  refine q_aload_n hG rfl rfl ?_
  refine q_iload hG rfl rfl ?_
  refine q_iconst (v := 1) hG rfl rfl ?_
  refine q_iadd hG rfl ?_
  refine q_iald9v (v := x1) hG rfl h20 ⟨by omega, by omega, by omega⟩ (by rw [show ((i : Int) + 1).toNat = i + 1 by omega]; exact e1) ?_
  refine q_aload_n hG rfl rfl ?_
  refine q_callS0 hG rfl rfl rfl (s_L_gapOf h0 (fun P y z3 => s_X_gapOf hX hR hW hq r1 (fun a1 => z3 _ _ ?_) (fun p a1 => y _ _ _ hk4 ?_)))
  · have u : upB B (junk B 6) := upB.junk B
    have f : frX I I := frX.refl I
    have sC := sC0
    have sM := sM0
    have hm9 := hm.cg u.cg
    have h178 := (u.1 178).trans h178
    have h20 := (u.1 (BIG + 20)).trans h20
    have hk9 := (u.1 184).trans hk4
    have hd9 := (u.1 185).trans hd4
    refine q_istore hG rfl rfl ?_
    refine q_aload_n hG rfl rfl ?_
    refine q_aload_n hG rfl rfl ?_
    refine q_iload hG rfl rfl ?_
    refine q_iconst (v := 1) hG rfl rfl ?_
    refine q_iadd hG rfl ?_
    refine q_iald9v (v := x1) hG rfl h20 ⟨by omega, by omega, by omega⟩ (by rw [show ((i : Int) + 1).toNat = i + 1 by omega]; exact e1) ?_
    refine q_callV6 hG rfl rfl rfl h178 (s_R_gapOf hm9 sM.1.1 hW hq r1 (fun b1 => ?_) (fun p2 b1 => ?_))
    · have ht9 : st I 178 0 1 178 0 = 1 := st_same _ _ _ _
      have sM2 := sM.t 1
      have g : frM I (st I 178 0 1) := ((sth.refl I 178).t 1).fM
      refine q_istore hG rfl rfl ?_
      refine q_aload_n hG rfl rfl ?_
      refine q_callV6 hG rfl rfl rfl h178 (s_R_thrown hm9 ht9 ?_)
      refine q_iload hG rfl rfl ?_
      refine q_icmp_eq hG rfl ⟨by omega, by omega⟩ ⟨by omega, by omega⟩ (fun _ => ?_) (fun q => absurd (by decide) q)
      refine q_iload hG rfl rfl ?_
      refine q_if_ne hG rfl ⟨by omega, by omega⟩ (fun _ => ?_) (fun q => absurd (by decide) q)
      refine q_goto hG rfl ?_
      exact hend _ _ _ _ _ (INV.of hb hKI u sC sM2 f g (hWI.up))
    · exfalso
      exact a1 p2 b1.1 b1.2.1
  · have u : upB B (sJ B 184 0 (i3 (R (29 + 5 * p + 4))).toInt64) := (upB.refl B).J (i3 (R (29 + 5 * p + 4))).toInt64
    have hj9 : hJ (sJ B 184 0 (i3 (R (29 + 5 * p + 4))).toInt64) 184 0 = (i3 (R (29 + 5 * p + 4))).toInt64 := sJ_at B _
    have f : frX I I := frX.refl I
    have sC := sC0
    have sM := sM0
    have hm9 := hm.cg u.cg
    have h178 := (u.1 178).trans h178
    have h20 := (u.1 (BIG + 20)).trans h20
    have hk9 := (u.1 184).trans hk4
    have hd9 := (u.1 185).trans hd4
    refine q_istore hG rfl rfl ?_
    refine q_aload_n hG rfl rfl ?_
    refine q_aload_n hG rfl rfl ?_
    refine q_iload hG rfl rfl ?_
    refine q_iconst (v := 1) hG rfl rfl ?_
    refine q_iadd hG rfl ?_
    refine q_iald9v (v := x1) hG rfl h20 ⟨by omega, by omega, by omega⟩ (by rw [show ((i : Int) + 1).toNat = i + 1 by omega]; exact e1) ?_
    refine q_callV6 hG rfl rfl rfl h178 (s_R_gapOf hm9 sM.1.1 hW hq r1 (fun b1 => ?_) (fun p2 b1 => ?_))
    · exfalso
      exact b1 p a1.1 a1.2.1
    · have ep := fst_u a1 b1
      subst ep
      have ht9 : st I 178 0 0 178 0 = 0 := st_same _ _ _ _
      have sM2 := sM.t 0
      have g : frM I (st I 178 0 0) := ((sth.refl I 178).t 0).fM
      refine q_istore hG rfl rfl ?_
      refine q_aload_n hG rfl rfl ?_
      refine q_callV6 hG rfl rfl rfl h178 (s_R_thrown hm9 ht9 ?_)
      refine q_iload hG rfl rfl ?_
      refine q_icmp_eq hG rfl ⟨by omega, by omega⟩ ⟨by omega, by omega⟩ (fun _ => ?_) (fun q => absurd (by decide) q)
      refine q_iload hG rfl rfl ?_
      refine q_if_ne hG rfl ⟨by omega, by omega⟩ (fun q => absurd q (by decide)) (fun _ => ?_)
      refine q_aload_n hG rfl rfl ?_
      refine q_iconst (v := 0) hG rfl rfl ?_
      refine q_laldX hG rfl hk9 hj9 ?_
      refine q_iload hG rfl rfl ?_
      refine q_i2l hG rfl ?_
      refine q_lcmp_same hG rfl ?_
      refine q_if_eq hG rfl ⟨by omega, by omega⟩ (fun _ => ?_) (fun q => absurd (by decide) q)
      refine q_goto hG rfl ?_
      exact hend _ _ _ _ _ (INV.of hb hKI u sC sM2 f g (hWI.up))
set_option maxRecDepth 100000 in
theorem lc_10 {d : Nat} {Post : Out → HP → Prop} {G : Nat → LV → List Value → HP → Prop} (hG : Cl (Sp (d + 21)) md_L_law Post G) {N L : Nat} {B : HP} {I : IM} (hI : INV N L B I) (hN : N ≤ 512) {i : Nat} (hi : i + 5 ≤ L) (hL : L ≤ 2560) (hend : ∀ (B2 : HP) (K : IM) (l6 l7 l8 : Option Value), INV (N + 1) L B2 K → G 2835 [some (.ref (BIG + 20)), some (.ref 0), some (.ref 178), some (.ref 184), some (.ref 185), some (.int (i3 (i : Int))), l6, l7, l8] [] (wI B2 K)) (l6 l7 l8 : Option Value) : G 810 [some (.ref (BIG + 20)), some (.ref 0), some (.ref 178), some (.ref 184), some (.ref 185), some (.int (i3 (i : Int))), l6, l7, l8] [] (wI B I) := by
  obtain ⟨R, c, h, sv, SR, eo, why, det, cau, o, l, hb, hKI, sC0, sM0, hWI⟩ := hI
  have hb0 := hb
  obtain ⟨hX, hm, hk4, hd4, h20, hn1, hw1, hv0⟩ := hb0
  have h0 := hX.1
  have h178 := hm.1
  have hW := hWI.1
  have w0 := hW.1
  have w1 := hW.2.1
  have hq : 20000 * (N : Int) ≤ 2000000000 := by omega
  have hC := sC0.1
  have hR := hC.1
  have hrW := hWI.2.2.2.1
  obtain ⟨x1, e1⟩ : ∃ v, I (BIG + 20) (i + 1) = v := ⟨_, rfl⟩
  have r1 : r32 x1 := e1 ▸ hKI.2.2.2 (i + 1)
  have ra1 := r1.1
  have rb1 := r1.2
  refine q_aload_n hG rfl rfl ?_
  refine q_aload_n hG rfl rfl ?_
  refine q_iload hG rfl rfl ?_
  refine q_iconst (v := 1) hG rfl rfl ?_
  refine q_iadd hG rfl ?_
  refine q_iald9v (v := x1) hG rfl h20 ⟨by omega, by omega, by omega⟩ (by rw [show ((i : Int) + 1).toNat = i + 1 by omega]; exact e1) ?_
  refine q_aload_n hG rfl rfl ?_
  refine q_callS0 hG rfl rfl rfl (s_L_isFixed h0 (fun P y1 y0 z2 => s_X_isFixed hX hR hW hq r1 (fun a1 => z2 _ _ ?_) (fun a1 a2 => y1 _ _ hk4 ?_) (fun a1 a2 => y0 _ _ hk4 ?_)))
  · have u : upB B (junk B 6) := upB.junk B
    have f : frX I I := frX.refl I
    have sC := sC0
    have sM := sM0
    have hm9 := hm.cg u.cg
    have h178 := (u.1 178).trans h178
    have h20 := (u.1 (BIG + 20)).trans h20
    have hk9 := (u.1 184).trans hk4
    have hd9 := (u.1 185).trans hd4
    refine q_istore hG rfl rfl ?_
    refine q_aload_n hG rfl rfl ?_
    refine q_aload_n hG rfl rfl ?_
    refine q_iload hG rfl rfl ?_
    refine q_iconst (v := 1) hG rfl rfl ?_
    refine q_iadd hG rfl ?_
    refine q_iald9v (v := x1) hG rfl h20 ⟨by omega, by omega, by omega⟩ (by rw [show ((i : Int) + 1).toNat = i + 1 by omega]; exact e1) ?_
    refine q_callV6 hG rfl rfl rfl h178 (s_R_isFixed hm9 sM.1.1 hW hq r1 (fun b1 => ?_) (fun b1 b2 => ?_) (fun b1 b2 => ?_))
    · have ht9 : st I 178 0 1 178 0 = 1 := st_same _ _ _ _
      have sM2 := sM.t 1
      have g : frM I (st I 178 0 1) := ((sth.refl I 178).t 1).fM
      refine q_istore hG rfl rfl ?_
      refine q_aload_n hG rfl rfl ?_
      refine q_callV6 hG rfl rfl rfl h178 (s_R_thrown hm9 ht9 ?_)
      refine q_iload hG rfl rfl ?_
      refine q_icmp_eq hG rfl ⟨by omega, by omega⟩ ⟨by omega, by omega⟩ (fun _ => ?_) (fun q => absurd (by decide) q)
      refine q_iload hG rfl rfl ?_
      refine q_if_ne hG rfl ⟨by omega, by omega⟩ (fun _ => ?_) (fun q => absurd (by decide) q)
      refine q_goto hG rfl ?_
      exact hend _ _ _ _ _ (INV.of hb hKI u sC sM2 f g (hWI.up))
    · exfalso
      first | contradiction | omega
    · exfalso
      first | contradiction | omega
  · have u : upB B (sJ B 184 0 1) := (upB.refl B).J 1
    have hj9 : hJ (sJ B 184 0 1) 184 0 = 1 := sJ_at B _
    have f : frX I I := frX.refl I
    have sC := sC0
    have sM := sM0
    have hm9 := hm.cg u.cg
    have h178 := (u.1 178).trans h178
    have h20 := (u.1 (BIG + 20)).trans h20
    have hk9 := (u.1 184).trans hk4
    have hd9 := (u.1 185).trans hd4
    refine q_istore hG rfl rfl ?_
    refine q_aload_n hG rfl rfl ?_
    refine q_aload_n hG rfl rfl ?_
    refine q_iload hG rfl rfl ?_
    refine q_iconst (v := 1) hG rfl rfl ?_
    refine q_iadd hG rfl ?_
    refine q_iald9v (v := x1) hG rfl h20 ⟨by omega, by omega, by omega⟩ (by rw [show ((i : Int) + 1).toNat = i + 1 by omega]; exact e1) ?_
    refine q_callV6 hG rfl rfl rfl h178 (s_R_isFixed hm9 sM.1.1 hW hq r1 (fun b1 => ?_) (fun b1 b2 => ?_) (fun b1 b2 => ?_))
    · exfalso
      first | contradiction | omega
    · have ht9 : st I 178 0 0 178 0 = 0 := st_same _ _ _ _
      have sM2 := sM.t 0
      have g : frM I (st I 178 0 0) := ((sth.refl I 178).t 0).fM
      refine q_istore hG rfl rfl ?_
      refine q_aload_n hG rfl rfl ?_
      refine q_callV6 hG rfl rfl rfl h178 (s_R_thrown hm9 ht9 ?_)
      refine q_iload hG rfl rfl ?_
      refine q_icmp_eq hG rfl ⟨by omega, by omega⟩ ⟨by omega, by omega⟩ (fun _ => ?_) (fun q => absurd (by decide) q)
      refine q_iload hG rfl rfl ?_
      refine q_if_ne hG rfl ⟨by omega, by omega⟩ (fun q => absurd q (by decide)) (fun _ => ?_)
      refine q_aload_n hG rfl rfl ?_
      refine q_iconst (v := 0) hG rfl rfl ?_
      refine q_laldX hG rfl hk9 hj9 ?_
      refine q_iload hG rfl rfl ?_
      refine q_if_eq hG rfl ⟨by omega, by omega⟩ (fun q => absurd q (by decide)) (fun _ => ?_)
      refine q_lconst1 hG rfl ?_
      refine q_goto hG rfl ?_
      refine q_lcmp_same hG rfl ?_
      refine q_if_eq hG rfl ⟨by omega, by omega⟩ (fun _ => ?_) (fun q => absurd (by decide) q)
      refine q_goto hG rfl ?_
      exact hend _ _ _ _ _ (INV.of hb hKI u sC sM2 f g (hWI.up))
    · exfalso
      first | contradiction | omega
  · have u : upB B (sJ B 184 0 0) := (upB.refl B).J 0
    have hj9 : hJ (sJ B 184 0 0) 184 0 = 0 := sJ_at B _
    have f : frX I I := frX.refl I
    have sC := sC0
    have sM := sM0
    have hm9 := hm.cg u.cg
    have h178 := (u.1 178).trans h178
    have h20 := (u.1 (BIG + 20)).trans h20
    have hk9 := (u.1 184).trans hk4
    have hd9 := (u.1 185).trans hd4
    refine q_istore hG rfl rfl ?_
    refine q_aload_n hG rfl rfl ?_
    refine q_aload_n hG rfl rfl ?_
    refine q_iload hG rfl rfl ?_
    refine q_iconst (v := 1) hG rfl rfl ?_
    refine q_iadd hG rfl ?_
    refine q_iald9v (v := x1) hG rfl h20 ⟨by omega, by omega, by omega⟩ (by rw [show ((i : Int) + 1).toNat = i + 1 by omega]; exact e1) ?_
    refine q_callV6 hG rfl rfl rfl h178 (s_R_isFixed hm9 sM.1.1 hW hq r1 (fun b1 => ?_) (fun b1 b2 => ?_) (fun b1 b2 => ?_))
    · exfalso
      first | contradiction | omega
    · exfalso
      first | contradiction | omega
    · have ht9 : st I 178 0 0 178 0 = 0 := st_same _ _ _ _
      have sM2 := sM.t 0
      have g : frM I (st I 178 0 0) := ((sth.refl I 178).t 0).fM
      refine q_istore hG rfl rfl ?_
      refine q_aload_n hG rfl rfl ?_
      refine q_callV6 hG rfl rfl rfl h178 (s_R_thrown hm9 ht9 ?_)
      refine q_iload hG rfl rfl ?_
      refine q_icmp_eq hG rfl ⟨by omega, by omega⟩ ⟨by omega, by omega⟩ (fun _ => ?_) (fun q => absurd (by decide) q)
      refine q_iload hG rfl rfl ?_
      refine q_if_ne hG rfl ⟨by omega, by omega⟩ (fun q => absurd q (by decide)) (fun _ => ?_)
      refine q_aload_n hG rfl rfl ?_
      refine q_iconst (v := 0) hG rfl rfl ?_
      refine q_laldX hG rfl hk9 hj9 ?_
      refine q_iload hG rfl rfl ?_
      refine q_if_eq hG rfl ⟨by omega, by omega⟩ (fun _ => ?_) (fun q => absurd (by decide) q)
      refine q_lconst0 hG rfl ?_
      refine q_lcmp_same hG rfl ?_
      refine q_if_eq hG rfl ⟨by omega, by omega⟩ (fun _ => ?_) (fun q => absurd (by decide) q)
      refine q_goto hG rfl ?_
      exact hend _ _ _ _ _ (INV.of hb hKI u sC sM2 f g (hWI.up))
set_option maxRecDepth 100000 in
theorem lc_20 {d : Nat} {Post : Out → HP → Prop} {G : Nat → LV → List Value → HP → Prop} (hG : Cl (Sp (d + 21)) md_L_law Post G) {N L : Nat} {B : HP} {I : IM} (hI : INV N L B I) (hN : N ≤ 512) {i : Nat} (hi : i + 5 ≤ L) (hL : L ≤ 2560) (hend : ∀ (B2 : HP) (K : IM) (l6 l7 l8 : Option Value), INV (N + 1) L B2 K → G 2835 [some (.ref (BIG + 20)), some (.ref 0), some (.ref 178), some (.ref 184), some (.ref 185), some (.int (i3 (i : Int))), l6, l7, l8] [] (wI B2 K)) (l6 l7 l8 : Option Value) : G 1372 [some (.ref (BIG + 20)), some (.ref 0), some (.ref 178), some (.ref 184), some (.ref 185), some (.int (i3 (i : Int))), l6, l7, l8] [] (wI B I) := by
  obtain ⟨R, c, h, sv, SR, eo, why, det, cau, o, l, hb, hKI, sC0, sM0, hWI⟩ := hI
  have hb0 := hb
  obtain ⟨hX, hm, hk4, hd4, h20, hn1, hw1, hv0⟩ := hb0
  have h0 := hX.1
  have h178 := hm.1
  have hW := hWI.1
  have w0 := hW.1
  have w1 := hW.2.1
  have hq : 20000 * (N : Int) ≤ 2000000000 := by omega
  have hC := sC0.1
  have hR := hC.1
  have hrW := hWI.2.2.2.1
  obtain ⟨x1, e1⟩ : ∃ v, I (BIG + 20) (i + 1) = v := ⟨_, rfl⟩
  have r1 : r32 x1 := e1 ▸ hKI.2.2.2 (i + 1)
  have ra1 := r1.1
  have rb1 := r1.2
  refine q_aload_n hG rfl rfl ?_
  refine q_aload_n hG rfl rfl ?_
  refine q_iload hG rfl rfl ?_
  refine q_iconst (v := 1) hG rfl rfl ?_
  refine q_iadd hG rfl ?_
  refine q_iald9v (v := x1) hG rfl h20 ⟨by omega, by omega, by omega⟩ (by rw [show ((i : Int) + 1).toNat = i + 1 by omega]; exact e1) ?_
  refine q_aload_n hG rfl rfl ?_
  refine q_callS0 hG rfl rfl rfl (s_L_isSafe h0 (fun P y1 y0 z3 => s_X_isSafe hX hR hW hq r1 (fun a1 => z3 _ _ ?_) (fun p a1 a2 => y1 _ _ hk4 ?_) (fun p a1 a2 => y0 _ _ hk4 ?_)))
  · have u : upB B (junk B 6) := upB.junk B
    have f : frX I I := frX.refl I
    have sC := sC0
    have sM := sM0
    have hm9 := hm.cg u.cg
    have h178 := (u.1 178).trans h178
    have h20 := (u.1 (BIG + 20)).trans h20
    have hk9 := (u.1 184).trans hk4
    have hd9 := (u.1 185).trans hd4
    refine q_istore hG rfl rfl ?_
    refine q_aload_n hG rfl rfl ?_
    refine q_aload_n hG rfl rfl ?_
    refine q_iload hG rfl rfl ?_
    refine q_iconst (v := 1) hG rfl rfl ?_
    refine q_iadd hG rfl ?_
    refine q_iald9v (v := x1) hG rfl h20 ⟨by omega, by omega, by omega⟩ (by rw [show ((i : Int) + 1).toNat = i + 1 by omega]; exact e1) ?_
    refine q_callV6 hG rfl rfl rfl h178 (s_R_isSafe hm9 sM.1.1 hW hq r1 (fun b1 => ?_) (fun p2 b1 b2 => ?_) (fun p2 b1 b2 => ?_))
    · have ht9 : st I 178 0 1 178 0 = 1 := st_same _ _ _ _
      have sM2 := sM.t 1
      have g : frM I (st I 178 0 1) := ((sth.refl I 178).t 1).fM
      refine q_istore hG rfl rfl ?_
      refine q_aload_n hG rfl rfl ?_
      refine q_callV6 hG rfl rfl rfl h178 (s_R_thrown hm9 ht9 ?_)
      refine q_iload hG rfl rfl ?_
      refine q_icmp_eq hG rfl ⟨by omega, by omega⟩ ⟨by omega, by omega⟩ (fun _ => ?_) (fun q => absurd (by decide) q)
      refine q_iload hG rfl rfl ?_
      refine q_if_ne hG rfl ⟨by omega, by omega⟩ (fun _ => ?_) (fun q => absurd (by decide) q)
      refine q_goto hG rfl ?_
      exact hend _ _ _ _ _ (INV.of hb hKI u sC sM2 f g (hWI.up))
    · exfalso
      exact a1 p2 b1.1 b1.2.1
    · exfalso
      exact a1 p2 b1.1 b1.2.1
  · have u : upB B (sJ B 184 0 1) := (upB.refl B).J 1
    have hj9 : hJ (sJ B 184 0 1) 184 0 = 1 := sJ_at B _
    have f : frX I I := frX.refl I
    have sC := sC0
    have sM := sM0
    have hm9 := hm.cg u.cg
    have h178 := (u.1 178).trans h178
    have h20 := (u.1 (BIG + 20)).trans h20
    have hk9 := (u.1 184).trans hk4
    have hd9 := (u.1 185).trans hd4
    refine q_istore hG rfl rfl ?_
    refine q_aload_n hG rfl rfl ?_
    refine q_aload_n hG rfl rfl ?_
    refine q_iload hG rfl rfl ?_
    refine q_iconst (v := 1) hG rfl rfl ?_
    refine q_iadd hG rfl ?_
    refine q_iald9v (v := x1) hG rfl h20 ⟨by omega, by omega, by omega⟩ (by rw [show ((i : Int) + 1).toNat = i + 1 by omega]; exact e1) ?_
    refine q_callV6 hG rfl rfl rfl h178 (s_R_isSafe hm9 sM.1.1 hW hq r1 (fun b1 => ?_) (fun p2 b1 b2 => ?_) (fun p2 b1 b2 => ?_))
    · exfalso
      exact b1 p a1.1 a1.2.1
    · have ht9 : st I 178 0 0 178 0 = 0 := st_same _ _ _ _
      have sM2 := sM.t 0
      have g : frM I (st I 178 0 0) := ((sth.refl I 178).t 0).fM
      refine q_istore hG rfl rfl ?_
      refine q_aload_n hG rfl rfl ?_
      refine q_callV6 hG rfl rfl rfl h178 (s_R_thrown hm9 ht9 ?_)
      refine q_iload hG rfl rfl ?_
      refine q_icmp_eq hG rfl ⟨by omega, by omega⟩ ⟨by omega, by omega⟩ (fun _ => ?_) (fun q => absurd (by decide) q)
      refine q_iload hG rfl rfl ?_
      refine q_if_ne hG rfl ⟨by omega, by omega⟩ (fun q => absurd q (by decide)) (fun _ => ?_)
      refine q_aload_n hG rfl rfl ?_
      refine q_iconst (v := 0) hG rfl rfl ?_
      refine q_laldX hG rfl hk9 hj9 ?_
      refine q_iload hG rfl rfl ?_
      refine q_if_eq hG rfl ⟨by omega, by omega⟩ (fun q => absurd q (by decide)) (fun _ => ?_)
      refine q_lconst1 hG rfl ?_
      refine q_goto hG rfl ?_
      refine q_lcmp_same hG rfl ?_
      refine q_if_eq hG rfl ⟨by omega, by omega⟩ (fun _ => ?_) (fun q => absurd (by decide) q)
      refine q_goto hG rfl ?_
      exact hend _ _ _ _ _ (INV.of hb hKI u sC sM2 f g (hWI.up))
    · exfalso
      have ep := fst_u a1 b1; subst ep; exact b2 a2
  · have u : upB B (sJ B 184 0 0) := (upB.refl B).J 0
    have hj9 : hJ (sJ B 184 0 0) 184 0 = 0 := sJ_at B _
    have f : frX I I := frX.refl I
    have sC := sC0
    have sM := sM0
    have hm9 := hm.cg u.cg
    have h178 := (u.1 178).trans h178
    have h20 := (u.1 (BIG + 20)).trans h20
    have hk9 := (u.1 184).trans hk4
    have hd9 := (u.1 185).trans hd4
    refine q_istore hG rfl rfl ?_
    refine q_aload_n hG rfl rfl ?_
    refine q_aload_n hG rfl rfl ?_
    refine q_iload hG rfl rfl ?_
    refine q_iconst (v := 1) hG rfl rfl ?_
    refine q_iadd hG rfl ?_
    refine q_iald9v (v := x1) hG rfl h20 ⟨by omega, by omega, by omega⟩ (by rw [show ((i : Int) + 1).toNat = i + 1 by omega]; exact e1) ?_
    refine q_callV6 hG rfl rfl rfl h178 (s_R_isSafe hm9 sM.1.1 hW hq r1 (fun b1 => ?_) (fun p2 b1 b2 => ?_) (fun p2 b1 b2 => ?_))
    · exfalso
      exact b1 p a1.1 a1.2.1
    · exfalso
      have ep := fst_u a1 b1; subst ep; exact a2 b2
    · have ht9 : st I 178 0 0 178 0 = 0 := st_same _ _ _ _
      have sM2 := sM.t 0
      have g : frM I (st I 178 0 0) := ((sth.refl I 178).t 0).fM
      refine q_istore hG rfl rfl ?_
      refine q_aload_n hG rfl rfl ?_
      refine q_callV6 hG rfl rfl rfl h178 (s_R_thrown hm9 ht9 ?_)
      refine q_iload hG rfl rfl ?_
      refine q_icmp_eq hG rfl ⟨by omega, by omega⟩ ⟨by omega, by omega⟩ (fun _ => ?_) (fun q => absurd (by decide) q)
      refine q_iload hG rfl rfl ?_
      refine q_if_ne hG rfl ⟨by omega, by omega⟩ (fun q => absurd q (by decide)) (fun _ => ?_)
      refine q_aload_n hG rfl rfl ?_
      refine q_iconst (v := 0) hG rfl rfl ?_
      refine q_laldX hG rfl hk9 hj9 ?_
      refine q_iload hG rfl rfl ?_
      refine q_if_eq hG rfl ⟨by omega, by omega⟩ (fun _ => ?_) (fun q => absurd (by decide) q)
      refine q_lconst0 hG rfl ?_
      refine q_lcmp_same hG rfl ?_
      refine q_if_eq hG rfl ⟨by omega, by omega⟩ (fun _ => ?_) (fun q => absurd (by decide) q)
      refine q_goto hG rfl ?_
      exact hend _ _ _ _ _ (INV.of hb hKI u sC sM2 f g (hWI.up))
set_option maxRecDepth 100000 in
theorem lc_21 {d : Nat} {Post : Out → HP → Prop} {G : Nat → LV → List Value → HP → Prop} (hG : Cl (Sp (d + 21)) md_L_law Post G) {N L : Nat} {B : HP} {I : IM} (hI : INV N L B I) (hN : N ≤ 512) {i : Nat} (hi : i + 5 ≤ L) (hL : L ≤ 2560) (hend : ∀ (B2 : HP) (K : IM) (l6 l7 l8 : Option Value), INV (N + 1) L B2 K → G 2835 [some (.ref (BIG + 20)), some (.ref 0), some (.ref 178), some (.ref 184), some (.ref 185), some (.int (i3 (i : Int))), l6, l7, l8] [] (wI B2 K)) (l6 l7 l8 : Option Value) : G 1435 [some (.ref (BIG + 20)), some (.ref 0), some (.ref 178), some (.ref 184), some (.ref 185), some (.int (i3 (i : Int))), l6, l7, l8] [] (wI B I) := by
  obtain ⟨R, c, h, sv, SR, eo, why, det, cau, o, l, hb, hKI, sC0, sM0, hWI⟩ := hI
  have hb0 := hb
  obtain ⟨hX, hm, hk4, hd4, h20, hn1, hw1, hv0⟩ := hb0
  have h0 := hX.1
  have h178 := hm.1
  have hW := hWI.1
  have w0 := hW.1
  have w1 := hW.2.1
  have hq : 20000 * (N : Int) ≤ 2000000000 := by omega
  have hC := sC0.1
  have hR := hC.1
  have hrW := hWI.2.2.2.1
  obtain ⟨x1, e1⟩ : ∃ v, I (BIG + 20) (i + 1) = v := ⟨_, rfl⟩
  have r1 : r32 x1 := e1 ▸ hKI.2.2.2 (i + 1)
  have ra1 := r1.1
  have rb1 := r1.2
  refine q_aload_n hG rfl rfl ?_
  refine q_aload_n hG rfl rfl ?_
  refine q_iload hG rfl rfl ?_
  refine q_iconst (v := 1) hG rfl rfl ?_
  refine q_iadd hG rfl ?_
  refine q_iald9v (v := x1) hG rfl h20 ⟨by omega, by omega, by omega⟩ (by rw [show ((i : Int) + 1).toNat = i + 1 by omega]; exact e1) ?_
  refine q_aload_n hG rfl rfl ?_
  refine q_callS0 hG rfl rfl rfl (s_L_isBroken h0 (fun P y1 y0 z3 => s_X_isBroken hX hR hW hq r1 (fun a1 => z3 _ _ ?_) (fun p a1 a2 => y1 _ _ hk4 ?_) (fun p a1 a2 => y0 _ _ hk4 ?_)))
  · have u : upB B (junk B 6) := upB.junk B
    have f : frX I I := frX.refl I
    have sC := sC0
    have sM := sM0
    have hm9 := hm.cg u.cg
    have h178 := (u.1 178).trans h178
    have h20 := (u.1 (BIG + 20)).trans h20
    have hk9 := (u.1 184).trans hk4
    have hd9 := (u.1 185).trans hd4
    refine q_istore hG rfl rfl ?_
    refine q_aload_n hG rfl rfl ?_
    refine q_aload_n hG rfl rfl ?_
    refine q_iload hG rfl rfl ?_
    refine q_iconst (v := 1) hG rfl rfl ?_
    refine q_iadd hG rfl ?_
    refine q_iald9v (v := x1) hG rfl h20 ⟨by omega, by omega, by omega⟩ (by rw [show ((i : Int) + 1).toNat = i + 1 by omega]; exact e1) ?_
    refine q_callV6 hG rfl rfl rfl h178 (s_R_isBroken hm9 sM.1.1 hW hq r1 (fun b1 => ?_) (fun p2 b1 b2 => ?_) (fun p2 b1 b2 => ?_))
    · have ht9 : st I 178 0 1 178 0 = 1 := st_same _ _ _ _
      have sM2 := sM.t 1
      have g : frM I (st I 178 0 1) := ((sth.refl I 178).t 1).fM
      refine q_istore hG rfl rfl ?_
      refine q_aload_n hG rfl rfl ?_
      refine q_callV6 hG rfl rfl rfl h178 (s_R_thrown hm9 ht9 ?_)
      refine q_iload hG rfl rfl ?_
      refine q_icmp_eq hG rfl ⟨by omega, by omega⟩ ⟨by omega, by omega⟩ (fun _ => ?_) (fun q => absurd (by decide) q)
      refine q_iload hG rfl rfl ?_
      refine q_if_ne hG rfl ⟨by omega, by omega⟩ (fun _ => ?_) (fun q => absurd (by decide) q)
      refine q_goto hG rfl ?_
      exact hend _ _ _ _ _ (INV.of hb hKI u sC sM2 f g (hWI.up))
    · exfalso
      exact a1 p2 b1.1 b1.2.1
    · exfalso
      exact a1 p2 b1.1 b1.2.1
  · have u : upB B (sJ B 184 0 1) := (upB.refl B).J 1
    have hj9 : hJ (sJ B 184 0 1) 184 0 = 1 := sJ_at B _
    have f : frX I I := frX.refl I
    have sC := sC0
    have sM := sM0
    have hm9 := hm.cg u.cg
    have h178 := (u.1 178).trans h178
    have h20 := (u.1 (BIG + 20)).trans h20
    have hk9 := (u.1 184).trans hk4
    have hd9 := (u.1 185).trans hd4
    refine q_istore hG rfl rfl ?_
    refine q_aload_n hG rfl rfl ?_
    refine q_aload_n hG rfl rfl ?_
    refine q_iload hG rfl rfl ?_
    refine q_iconst (v := 1) hG rfl rfl ?_
    refine q_iadd hG rfl ?_
    refine q_iald9v (v := x1) hG rfl h20 ⟨by omega, by omega, by omega⟩ (by rw [show ((i : Int) + 1).toNat = i + 1 by omega]; exact e1) ?_
    refine q_callV6 hG rfl rfl rfl h178 (s_R_isBroken hm9 sM.1.1 hW hq r1 (fun b1 => ?_) (fun p2 b1 b2 => ?_) (fun p2 b1 b2 => ?_))
    · exfalso
      exact b1 p a1.1 a1.2.1
    · have ht9 : st I 178 0 0 178 0 = 0 := st_same _ _ _ _
      have sM2 := sM.t 0
      have g : frM I (st I 178 0 0) := ((sth.refl I 178).t 0).fM
      refine q_istore hG rfl rfl ?_
      refine q_aload_n hG rfl rfl ?_
      refine q_callV6 hG rfl rfl rfl h178 (s_R_thrown hm9 ht9 ?_)
      refine q_iload hG rfl rfl ?_
      refine q_icmp_eq hG rfl ⟨by omega, by omega⟩ ⟨by omega, by omega⟩ (fun _ => ?_) (fun q => absurd (by decide) q)
      refine q_iload hG rfl rfl ?_
      refine q_if_ne hG rfl ⟨by omega, by omega⟩ (fun q => absurd q (by decide)) (fun _ => ?_)
      refine q_aload_n hG rfl rfl ?_
      refine q_iconst (v := 0) hG rfl rfl ?_
      refine q_laldX hG rfl hk9 hj9 ?_
      refine q_iload hG rfl rfl ?_
      refine q_if_eq hG rfl ⟨by omega, by omega⟩ (fun q => absurd q (by decide)) (fun _ => ?_)
      refine q_lconst1 hG rfl ?_
      refine q_goto hG rfl ?_
      refine q_lcmp_same hG rfl ?_
      refine q_if_eq hG rfl ⟨by omega, by omega⟩ (fun _ => ?_) (fun q => absurd (by decide) q)
      refine q_goto hG rfl ?_
      exact hend _ _ _ _ _ (INV.of hb hKI u sC sM2 f g (hWI.up))
    · exfalso
      have ep := fst_u a1 b1; subst ep; exact b2 a2
  · have u : upB B (sJ B 184 0 0) := (upB.refl B).J 0
    have hj9 : hJ (sJ B 184 0 0) 184 0 = 0 := sJ_at B _
    have f : frX I I := frX.refl I
    have sC := sC0
    have sM := sM0
    have hm9 := hm.cg u.cg
    have h178 := (u.1 178).trans h178
    have h20 := (u.1 (BIG + 20)).trans h20
    have hk9 := (u.1 184).trans hk4
    have hd9 := (u.1 185).trans hd4
    refine q_istore hG rfl rfl ?_
    refine q_aload_n hG rfl rfl ?_
    refine q_aload_n hG rfl rfl ?_
    refine q_iload hG rfl rfl ?_
    refine q_iconst (v := 1) hG rfl rfl ?_
    refine q_iadd hG rfl ?_
    refine q_iald9v (v := x1) hG rfl h20 ⟨by omega, by omega, by omega⟩ (by rw [show ((i : Int) + 1).toNat = i + 1 by omega]; exact e1) ?_
    refine q_callV6 hG rfl rfl rfl h178 (s_R_isBroken hm9 sM.1.1 hW hq r1 (fun b1 => ?_) (fun p2 b1 b2 => ?_) (fun p2 b1 b2 => ?_))
    · exfalso
      exact b1 p a1.1 a1.2.1
    · exfalso
      have ep := fst_u a1 b1; subst ep; exact a2 b2
    · have ht9 : st I 178 0 0 178 0 = 0 := st_same _ _ _ _
      have sM2 := sM.t 0
      have g : frM I (st I 178 0 0) := ((sth.refl I 178).t 0).fM
      refine q_istore hG rfl rfl ?_
      refine q_aload_n hG rfl rfl ?_
      refine q_callV6 hG rfl rfl rfl h178 (s_R_thrown hm9 ht9 ?_)
      refine q_iload hG rfl rfl ?_
      refine q_icmp_eq hG rfl ⟨by omega, by omega⟩ ⟨by omega, by omega⟩ (fun _ => ?_) (fun q => absurd (by decide) q)
      refine q_iload hG rfl rfl ?_
      refine q_if_ne hG rfl ⟨by omega, by omega⟩ (fun q => absurd q (by decide)) (fun _ => ?_)
      refine q_aload_n hG rfl rfl ?_
      refine q_iconst (v := 0) hG rfl rfl ?_
      refine q_laldX hG rfl hk9 hj9 ?_
      refine q_iload hG rfl rfl ?_
      refine q_if_eq hG rfl ⟨by omega, by omega⟩ (fun _ => ?_) (fun q => absurd (by decide) q)
      refine q_lconst0 hG rfl ?_
      refine q_lcmp_same hG rfl ?_
      refine q_if_eq hG rfl ⟨by omega, by omega⟩ (fun _ => ?_) (fun q => absurd (by decide) q)
      refine q_goto hG rfl ?_
      exact hend _ _ _ _ _ (INV.of hb hKI u sC sM2 f g (hWI.up))
set_option maxRecDepth 100000 in
theorem lc_4 {d : Nat} {Post : Out → HP → Prop} {G : Nat → LV → List Value → HP → Prop} (hG : Cl (Sp (d + 21)) md_L_law Post G) {N L : Nat} {B : HP} {I : IM} (hI : INV N L B I) (hN : N ≤ 512) {i : Nat} (hi : i + 5 ≤ L) (hL : L ≤ 2560) (hend : ∀ (B2 : HP) (K : IM) (l6 l7 l8 : Option Value), INV (N + 1) L B2 K → G 2835 [some (.ref (BIG + 20)), some (.ref 0), some (.ref 178), some (.ref 184), some (.ref 185), some (.int (i3 (i : Int))), l6, l7, l8] [] (wI B2 K)) (l6 l7 l8 : Option Value) : G 517 [some (.ref (BIG + 20)), some (.ref 0), some (.ref 178), some (.ref 184), some (.ref 185), some (.int (i3 (i : Int))), l6, l7, l8] [] (wI B I) := by
  obtain ⟨R, c, h, sv, SR, eo, why, det, cau, o, l, hb, hKI, sC0, sM0, hWI⟩ := hI
  have hb0 := hb
  obtain ⟨hX, hm, hk4, hd4, h20, hn1, hw1, hv0⟩ := hb0
  have h0 := hX.1
  have h178 := hm.1
  have hW := hWI.1
  have w0 := hW.1
  have w1 := hW.2.1
  have hq : 20000 * (N : Int) ≤ 2000000000 := by omega
  have hC := sC0.1
  have hR := hC.1
  have hrW := hWI.2.2.2.1
  refine q_aload_n hG rfl rfl ?_
  refine q_callV6 hG rfl rfl rfl h0 (s_X_doorCount hX hR hW hq (?_))
  have u : upB B B := upB.refl B
  have f : frX I I := frX.refl I
  have sC := sC0
  have sM := sM0
  have hm9 := hm.cg u.cg
  have h178 := (u.1 178).trans h178
  have h20 := (u.1 (BIG + 20)).trans h20
  have hk9 := (u.1 184).trans hk4
  have hd9 := (u.1 185).trans hd4
  refine q_aload_n hG rfl rfl ?_
  refine q_callV6 hG rfl rfl rfl h178 (s_R_doorCount hm9 sM.1.1 hW hq ?_)
  have ht9 : st I 178 0 0 178 0 = 0 := st_same _ _ _ _
  have sM2 := sM.t 0
  have g : frM I (st I 178 0 0) := ((sth.refl I 178).t 0).fM
  refine q_icmp_same hG rfl ?_
  exact hend _ _ _ _ _ (INV.of hb hKI u sC sM2 f g (hWI.up))
set_option maxRecDepth 100000 in
theorem lc_14 {d : Nat} {Post : Out → HP → Prop} {G : Nat → LV → List Value → HP → Prop} (hG : Cl (Sp (d + 21)) md_L_law Post G) {N L : Nat} {B : HP} {I : IM} (hI : INV N L B I) (hN : N ≤ 512) {i : Nat} (hi : i + 5 ≤ L) (hL : L ≤ 2560) (hend : ∀ (B2 : HP) (K : IM) (l6 l7 l8 : Option Value), INV (N + 1) L B2 K → G 2835 [some (.ref (BIG + 20)), some (.ref 0), some (.ref 178), some (.ref 184), some (.ref 185), some (.int (i3 (i : Int))), l6, l7, l8] [] (wI B2 K)) (l6 l7 l8 : Option Value) : G 1079 [some (.ref (BIG + 20)), some (.ref 0), some (.ref 178), some (.ref 184), some (.ref 185), some (.int (i3 (i : Int))), l6, l7, l8] [] (wI B I) := by
  obtain ⟨R, c, h, sv, SR, eo, why, det, cau, o, l, hb, hKI, sC0, sM0, hWI⟩ := hI
  have hb0 := hb
  obtain ⟨hX, hm, hk4, hd4, h20, hn1, hw1, hv0⟩ := hb0
  have h0 := hX.1
  have h178 := hm.1
  have hW := hWI.1
  have w0 := hW.1
  have w1 := hW.2.1
  have hq : 20000 * (N : Int) ≤ 2000000000 := by omega
  have hC := sC0.1
  have hR := hC.1
  have hrW := hWI.2.2.2.1
  refine q_aload_n hG rfl rfl ?_
  refine q_callV6 hG rfl rfl rfl h0 (s_X_constraintCount hX hR hW hq (?_))
  have u : upB B B := upB.refl B
  have f : frX I I := frX.refl I
  have sC := sC0
  have sM := sM0
  have hm9 := hm.cg u.cg
  have h178 := (u.1 178).trans h178
  have h20 := (u.1 (BIG + 20)).trans h20
  have hk9 := (u.1 184).trans hk4
  have hd9 := (u.1 185).trans hd4
  refine q_aload_n hG rfl rfl ?_
  refine q_callV6 hG rfl rfl rfl h178 (s_R_constraintCount hm9 sM.1.1 hW hq ?_)
  have ht9 : st I 178 0 0 178 0 = 0 := st_same _ _ _ _
  have sM2 := sM.t 0
  have g : frM I (st I 178 0 0) := ((sth.refl I 178).t 0).fM
  refine q_icmp_same hG rfl ?_
  exact hend _ _ _ _ _ (INV.of hb hKI u sC sM2 f g (hWI.up))
set_option maxRecDepth 100000 in
theorem lc_28 {d : Nat} {Post : Out → HP → Prop} {G : Nat → LV → List Value → HP → Prop} (hG : Cl (Sp (d + 21)) md_L_law Post G) {N L : Nat} {B : HP} {I : IM} (hI : INV N L B I) (hN : N ≤ 512) {i : Nat} (hi : i + 5 ≤ L) (hL : L ≤ 2560) (hend : ∀ (B2 : HP) (K : IM) (l6 l7 l8 : Option Value), INV (N + 1) L B2 K → G 2835 [some (.ref (BIG + 20)), some (.ref 0), some (.ref 178), some (.ref 184), some (.ref 185), some (.int (i3 (i : Int))), l6, l7, l8] [] (wI B2 K)) (l6 l7 l8 : Option Value) : G 1755 [some (.ref (BIG + 20)), some (.ref 0), some (.ref 178), some (.ref 184), some (.ref 185), some (.int (i3 (i : Int))), l6, l7, l8] [] (wI B I) := by
  obtain ⟨R, c, h, sv, SR, eo, why, det, cau, o, l, hb, hKI, sC0, sM0, hWI⟩ := hI
  have hb0 := hb
  obtain ⟨hX, hm, hk4, hd4, h20, hn1, hw1, hv0⟩ := hb0
  have h0 := hX.1
  have h178 := hm.1
  have hW := hWI.1
  have w0 := hW.1
  have w1 := hW.2.1
  have hq : 20000 * (N : Int) ≤ 2000000000 := by omega
  have hC := sC0.1
  have hR := hC.1
  have hrW := hWI.2.2.2.1
  refine q_aload_n hG rfl rfl ?_
  refine q_callV6 hG rfl rfl rfl h0 (s_X_passCount hX hR hW hq (?_))
  have u : upB B B := upB.refl B
  have f : frX I I := frX.refl I
  have sC := sC0
  have sM := sM0
  have hm9 := hm.cg u.cg
  have h178 := (u.1 178).trans h178
  have h20 := (u.1 (BIG + 20)).trans h20
  have hk9 := (u.1 184).trans hk4
  have hd9 := (u.1 185).trans hd4
  refine q_aload_n hG rfl rfl ?_
  refine q_callV6 hG rfl rfl rfl h178 (s_R_passCount hm9 sM.1.1 hW hq ?_)
  have ht9 : st I 178 0 0 178 0 = 0 := st_same _ _ _ _
  have sM2 := sM.t 0
  have g : frM I (st I 178 0 0) := ((sth.refl I 178).t 0).fM
  refine q_icmp_same hG rfl ?_
  exact hend _ _ _ _ _ (INV.of hb hKI u sC sM2 f g (hWI.up))
set_option maxRecDepth 100000 in
theorem lc_29 {d : Nat} {Post : Out → HP → Prop} {G : Nat → LV → List Value → HP → Prop} (hG : Cl (Sp (d + 21)) md_L_law Post G) {N L : Nat} {B : HP} {I : IM} (hI : INV N L B I) (hN : N ≤ 512) {i : Nat} (hi : i + 5 ≤ L) (hL : L ≤ 2560) (hend : ∀ (B2 : HP) (K : IM) (l6 l7 l8 : Option Value), INV (N + 1) L B2 K → G 2835 [some (.ref (BIG + 20)), some (.ref 0), some (.ref 178), some (.ref 184), some (.ref 185), some (.int (i3 (i : Int))), l6, l7, l8] [] (wI B2 K)) (l6 l7 l8 : Option Value) : G 1768 [some (.ref (BIG + 20)), some (.ref 0), some (.ref 178), some (.ref 184), some (.ref 185), some (.int (i3 (i : Int))), l6, l7, l8] [] (wI B I) := by
  obtain ⟨R, c, h, sv, SR, eo, why, det, cau, o, l, hb, hKI, sC0, sM0, hWI⟩ := hI
  have hb0 := hb
  obtain ⟨hX, hm, hk4, hd4, h20, hn1, hw1, hv0⟩ := hb0
  have h0 := hX.1
  have h178 := hm.1
  have hW := hWI.1
  have w0 := hW.1
  have w1 := hW.2.1
  have hq : 20000 * (N : Int) ≤ 2000000000 := by omega
  have hC := sC0.1
  have hR := hC.1
  have hrW := hWI.2.2.2.1
  refine q_aload_n hG rfl rfl ?_
  refine q_callV6 hG rfl rfl rfl h0 (s_X_changeCount hX hR hW hq (?_))
  have u : upB B B := upB.refl B
  have f : frX I I := frX.refl I
  have sC := sC0
  have sM := sM0
  have hm9 := hm.cg u.cg
  have h178 := (u.1 178).trans h178
  have h20 := (u.1 (BIG + 20)).trans h20
  have hk9 := (u.1 184).trans hk4
  have hd9 := (u.1 185).trans hd4
  refine q_aload_n hG rfl rfl ?_
  refine q_callV6 hG rfl rfl rfl h178 (s_R_changeCount hm9 sM.1.1 hW hq ?_)
  have ht9 : st I 178 0 0 178 0 = 0 := st_same _ _ _ _
  have sM2 := sM.t 0
  have g : frM I (st I 178 0 0) := ((sth.refl I 178).t 0).fM
  refine q_icmp_same hG rfl ?_
  exact hend _ _ _ _ _ (INV.of hb hKI u sC sM2 f g (hWI.up))
set_option maxRecDepth 100000 in
theorem lc_36 {d : Nat} {Post : Out → HP → Prop} {G : Nat → LV → List Value → HP → Prop} (hG : Cl (Sp (d + 21)) md_L_law Post G) {N L : Nat} {B : HP} {I : IM} (hI : INV N L B I) (hN : N ≤ 512) {i : Nat} (hi : i + 5 ≤ L) (hL : L ≤ 2560) (hend : ∀ (B2 : HP) (K : IM) (l6 l7 l8 : Option Value), INV (N + 1) L B2 K → G 2835 [some (.ref (BIG + 20)), some (.ref 0), some (.ref 178), some (.ref 184), some (.ref 185), some (.int (i3 (i : Int))), l6, l7, l8] [] (wI B2 K)) (l6 l7 l8 : Option Value) : G 2105 [some (.ref (BIG + 20)), some (.ref 0), some (.ref 178), some (.ref 184), some (.ref 185), some (.int (i3 (i : Int))), l6, l7, l8] [] (wI B I) := by
  obtain ⟨R, c, h, sv, SR, eo, why, det, cau, o, l, hb, hKI, sC0, sM0, hWI⟩ := hI
  have hb0 := hb
  obtain ⟨hX, hm, hk4, hd4, h20, hn1, hw1, hv0⟩ := hb0
  have h0 := hX.1
  have h178 := hm.1
  have hW := hWI.1
  have w0 := hW.1
  have w1 := hW.2.1
  have hq : 20000 * (N : Int) ≤ 2000000000 := by omega
  have hC := sC0.1
  have hR := hC.1
  have hrW := hWI.2.2.2.1
  refine q_aload_n hG rfl rfl ?_
  refine q_callV6 hG rfl rfl rfl h0 (s_X_fixedCount hX hR hW hq (?_))
  have u : upB B B := upB.refl B
  have f : frX I I := frX.refl I
  have sC := sC0
  have sM := sM0
  have hm9 := hm.cg u.cg
  have h178 := (u.1 178).trans h178
  have h20 := (u.1 (BIG + 20)).trans h20
  have hk9 := (u.1 184).trans hk4
  have hd9 := (u.1 185).trans hd4
  refine q_aload_n hG rfl rfl ?_
  refine q_callV6 hG rfl rfl rfl h178 (s_R_fixedCount hm9 sM.1.1 hW hq ?_)
  have ht9 : st I 178 0 0 178 0 = 0 := st_same _ _ _ _
  have sM2 := sM.t 0
  have g : frM I (st I 178 0 0) := ((sth.refl I 178).t 0).fM
  refine q_icmp_same hG rfl ?_
  exact hend _ _ _ _ _ (INV.of hb hKI u sC sM2 f g (hWI.up))
set_option maxRecDepth 100000 in
theorem lc_37 {d : Nat} {Post : Out → HP → Prop} {G : Nat → LV → List Value → HP → Prop} (hG : Cl (Sp (d + 21)) md_L_law Post G) {N L : Nat} {B : HP} {I : IM} (hI : INV N L B I) (hN : N ≤ 512) {i : Nat} (hi : i + 5 ≤ L) (hL : L ≤ 2560) (hend : ∀ (B2 : HP) (K : IM) (l6 l7 l8 : Option Value), INV (N + 1) L B2 K → G 2835 [some (.ref (BIG + 20)), some (.ref 0), some (.ref 178), some (.ref 184), some (.ref 185), some (.int (i3 (i : Int))), l6, l7, l8] [] (wI B2 K)) (l6 l7 l8 : Option Value) : G 2118 [some (.ref (BIG + 20)), some (.ref 0), some (.ref 178), some (.ref 184), some (.ref 185), some (.int (i3 (i : Int))), l6, l7, l8] [] (wI B I) := by
  obtain ⟨R, c, h, sv, SR, eo, why, det, cau, o, l, hb, hKI, sC0, sM0, hWI⟩ := hI
  have hb0 := hb
  obtain ⟨hX, hm, hk4, hd4, h20, hn1, hw1, hv0⟩ := hb0
  have h0 := hX.1
  have h178 := hm.1
  have hW := hWI.1
  have w0 := hW.1
  have w1 := hW.2.1
  have hq : 20000 * (N : Int) ≤ 2000000000 := by omega
  have hC := sC0.1
  have hR := hC.1
  have hrW := hWI.2.2.2.1
  refine q_aload_n hG rfl rfl ?_
  refine q_callV6 hG rfl rfl rfl h0 (s_X_totalWidth hX hR hW hq (?_))
  have u : upB B B := upB.refl B
  have f : frX I I := frX.refl I
  have sC := sC0
  have sM := sM0
  have hm9 := hm.cg u.cg
  have h178 := (u.1 178).trans h178
  have h20 := (u.1 (BIG + 20)).trans h20
  have hk9 := (u.1 184).trans hk4
  have hd9 := (u.1 185).trans hd4
  refine q_aload_n hG rfl rfl ?_
  refine q_callV6 hG rfl rfl rfl h178 (s_R_totalWidth hm9 sM.1.1 hW hq ?_)
  have ht9 : st I 178 0 0 178 0 = 0 := st_same _ _ _ _
  have sM2 := sM.t 0
  have g : frM I (st I 178 0 0) := ((sth.refl I 178).t 0).fM
  refine q_icmp_same hG rfl ?_
  exact hend _ _ _ _ _ (INV.of hb hKI u sC sM2 f g (hWI.up))
set_option maxRecDepth 100000 in
theorem lc_38 {d : Nat} {Post : Out → HP → Prop} {G : Nat → LV → List Value → HP → Prop} (hG : Cl (Sp (d + 21)) md_L_law Post G) {N L : Nat} {B : HP} {I : IM} (hI : INV N L B I) (hN : N ≤ 512) {i : Nat} (hi : i + 5 ≤ L) (hL : L ≤ 2560) (hend : ∀ (B2 : HP) (K : IM) (l6 l7 l8 : Option Value), INV (N + 1) L B2 K → G 2835 [some (.ref (BIG + 20)), some (.ref 0), some (.ref 178), some (.ref 184), some (.ref 185), some (.int (i3 (i : Int))), l6, l7, l8] [] (wI B2 K)) (l6 l7 l8 : Option Value) : G 2131 [some (.ref (BIG + 20)), some (.ref 0), some (.ref 178), some (.ref 184), some (.ref 185), some (.int (i3 (i : Int))), l6, l7, l8] [] (wI B I) := by
  obtain ⟨R, c, h, sv, SR, eo, why, det, cau, o, l, hb, hKI, sC0, sM0, hWI⟩ := hI
  have hb0 := hb
  obtain ⟨hX, hm, hk4, hd4, h20, hn1, hw1, hv0⟩ := hb0
  have h0 := hX.1
  have h178 := hm.1
  have hW := hWI.1
  have w0 := hW.1
  have w1 := hW.2.1
  have hq : 20000 * (N : Int) ≤ 2000000000 := by omega
  have hC := sC0.1
  have hR := hC.1
  have hrW := hWI.2.2.2.1
  refine q_aload_n hG rfl rfl ?_
  refine q_callV6 hG rfl rfl rfl h0 (s_X_totalFrameWidth hX hR hW hq (?_))
  have u : upB B B := upB.refl B
  have f : frX I I := frX.refl I
  have sC := sC0
  have sM := sM0
  have hm9 := hm.cg u.cg
  have h178 := (u.1 178).trans h178
  have h20 := (u.1 (BIG + 20)).trans h20
  have hk9 := (u.1 184).trans hk4
  have hd9 := (u.1 185).trans hd4
  refine q_aload_n hG rfl rfl ?_
  refine q_callV6 hG rfl rfl rfl h178 (s_R_totalFrameWidth hm9 sM.1.1 hW hq ?_)
  have ht9 : st I 178 0 0 178 0 = 0 := st_same _ _ _ _
  have sM2 := sM.t 0
  have g : frM I (st I 178 0 0) := ((sth.refl I 178).t 0).fM
  refine q_icmp_same hG rfl ?_
  exact hend _ _ _ _ _ (INV.of hb hKI u sC sM2 f g (hWI.up))
set_option maxRecDepth 100000 in
theorem lc_24 {d : Nat} {Post : Out → HP → Prop} {G : Nat → LV → List Value → HP → Prop} (hG : Cl (Sp (d + 21)) md_L_law Post G) {N L : Nat} {B : HP} {I : IM} (hI : INV N L B I) (hN : N ≤ 512) {i : Nat} (hi : i + 5 ≤ L) (hL : L ≤ 2560) (hend : ∀ (B2 : HP) (K : IM) (l6 l7 l8 : Option Value), INV (N + 1) L B2 K → G 2835 [some (.ref (BIG + 20)), some (.ref 0), some (.ref 178), some (.ref 184), some (.ref 185), some (.int (i3 (i : Int))), l6, l7, l8] [] (wI B2 K)) (l6 l7 l8 : Option Value) : G 1586 [some (.ref (BIG + 20)), some (.ref 0), some (.ref 178), some (.ref 184), some (.ref 185), some (.int (i3 (i : Int))), l6, l7, l8] [] (wI B I) := by
  obtain ⟨R, c, h, sv, SR, eo, why, det, cau, o, l, hb, hKI, sC0, sM0, hWI⟩ := hI
  have hb0 := hb
  obtain ⟨hX, hm, hk4, hd4, h20, hn1, hw1, hv0⟩ := hb0
  have h0 := hX.1
  have h178 := hm.1
  have hW := hWI.1
  have w0 := hW.1
  have w1 := hW.2.1
  have hq : 20000 * (N : Int) ≤ 2000000000 := by omega
  have hC := sC0.1
  have hR := hC.1
  have hrW := hWI.2.2.2.1
  refine q_aload_n hG rfl rfl ?_
  refine q_callV6 hG rfl rfl rfl h0 (s_X_isSettled hX hR hW hq (fun a1 a2 J c1 => ?_) (fun a1 J c1 => ?_))
  · have u : upB B B := upB.refl B
    have ct : trf I J := fr150 c1
    have f : frX I J := trf.X ct
    have sC := sC0.trf ct
    have sM := sM0.cls f
    have hm9 := hm.cg u.cg
    have h178 := (u.1 178).trans h178
    have h20 := (u.1 (BIG + 20)).trans h20
    have hk9 := (u.1 184).trans hk4
    have hd9 := (u.1 185).trans hd4
    refine q_aload_n hG rfl rfl ?_
    refine q_callV6 hG rfl rfl rfl h178 (s_R_isSettled hm9 sM.1.1 hW hq (fun b1 b2 K k1 k2 k3 => ?_) (fun b1 K k1 k2 k3 => ?_))
    · have ht9 := k2
      have sM2 := sM.z k1 k3
      have g := k3.fM
      refine q_icmp_eq hG rfl ⟨by omega, by omega⟩ ⟨by omega, by omega⟩ (fun _ => ?_) (fun q => absurd (by decide) q)
      exact hend _ _ _ _ _ (INV.of hb hKI u sC sM2 f g (hWI.up))
    · exfalso
      exact b1 ⟨a1, a2⟩
  · have u : upB B B := upB.refl B
    have ct : trf I J := fr150 c1
    have f : frX I J := trf.X ct
    have sC := sC0.trf ct
    have sM := sM0.cls f
    have hm9 := hm.cg u.cg
    have h178 := (u.1 178).trans h178
    have h20 := (u.1 (BIG + 20)).trans h20
    have hk9 := (u.1 184).trans hk4
    have hd9 := (u.1 185).trans hd4
    refine q_aload_n hG rfl rfl ?_
    refine q_callV6 hG rfl rfl rfl h178 (s_R_isSettled hm9 sM.1.1 hW hq (fun b1 b2 K k1 k2 k3 => ?_) (fun b1 K k1 k2 k3 => ?_))
    · exfalso
      exact a1 ⟨b1, b2⟩
    · have ht9 := k2
      have sM2 := sM.z k1 k3
      have g := k3.fM
      refine q_icmp_eq hG rfl ⟨by omega, by omega⟩ ⟨by omega, by omega⟩ (fun _ => ?_) (fun q => absurd (by decide) q)
      exact hend _ _ _ _ _ (INV.of hb hKI u sC sM2 f g (hWI.up))
set_option maxRecDepth 100000 in
theorem lc_25 {d : Nat} {Post : Out → HP → Prop} {G : Nat → LV → List Value → HP → Prop} (hG : Cl (Sp (d + 21)) md_L_law Post G) {N L : Nat} {B : HP} {I : IM} (hI : INV N L B I) (hN : N ≤ 512) {i : Nat} (hi : i + 5 ≤ L) (hL : L ≤ 2560) (hend : ∀ (B2 : HP) (K : IM) (l6 l7 l8 : Option Value), INV (N + 1) L B2 K → G 2835 [some (.ref (BIG + 20)), some (.ref 0), some (.ref 178), some (.ref 184), some (.ref 185), some (.int (i3 (i : Int))), l6, l7, l8] [] (wI B2 K)) (l6 l7 l8 : Option Value) : G 1599 [some (.ref (BIG + 20)), some (.ref 0), some (.ref 178), some (.ref 184), some (.ref 185), some (.int (i3 (i : Int))), l6, l7, l8] [] (wI B I) := by
  obtain ⟨R, c, h, sv, SR, eo, why, det, cau, o, l, hb, hKI, sC0, sM0, hWI⟩ := hI
  have hb0 := hb
  obtain ⟨hX, hm, hk4, hd4, h20, hn1, hw1, hv0⟩ := hb0
  have h0 := hX.1
  have h178 := hm.1
  have hW := hWI.1
  have w0 := hW.1
  have w1 := hW.2.1
  have hq : 20000 * (N : Int) ≤ 2000000000 := by omega
  have hC := sC0.1
  have hR := hC.1
  have hrW := hWI.2.2.2.1
  refine q_aload_n hG rfl rfl ?_
  refine q_aload_n hG rfl rfl ?_
  refine q_callS0 hG rfl rfl rfl (s_L_wouldChange h0 (fun P y z3 => s_X_wouldChange hX hR hW hq (fun a1 J c1 => y _ _ _ hk4 ?_) (fun p a1 J c1 => z3 _ _ ?_)))
  · have u : upB B (sJ B 184 0 (i3 ((paR R 1).1.2.2)).toInt64) := (upB.refl B).J (i3 ((paR R 1).1.2.2)).toInt64
    have hj9 : hJ (sJ B 184 0 (i3 ((paR R 1).1.2.2)).toInt64) 184 0 = (i3 ((paR R 1).1.2.2)).toInt64 := sJ_at B _
    have ct : trf I J := fr150 c1
    have f : frX I J := trf.X ct
    have sC := sC0.trf ct
    have sM := sM0.cls f
    have hm9 := hm.cg u.cg
    have h178 := (u.1 178).trans h178
    have h20 := (u.1 (BIG + 20)).trans h20
    have hk9 := (u.1 184).trans hk4
    have hd9 := (u.1 185).trans hd4
    refine q_istore hG rfl rfl ?_
    refine q_aload_n hG rfl rfl ?_
    refine q_callV6 hG rfl rfl rfl h178 (s_R_wouldChange hm9 sM.1.1 hW hq (fun b1 K k1 k2 k3 => ?_) (fun p2 b1 K k1 k2 k3 => ?_))
    · have ht9 := k2
      have sM2 := sM.z k1 k3
      have g := k3.fM
      refine q_istore hG rfl rfl ?_
      refine q_aload_n hG rfl rfl ?_
      refine q_callV6 hG rfl rfl rfl h178 (s_R_thrown hm9 ht9 ?_)
      refine q_iload hG rfl rfl ?_
      refine q_icmp_eq hG rfl ⟨by omega, by omega⟩ ⟨by omega, by omega⟩ (fun _ => ?_) (fun q => absurd (by decide) q)
      refine q_iload hG rfl rfl ?_
      refine q_if_ne hG rfl ⟨by omega, by omega⟩ (fun q => absurd q (by decide)) (fun _ => ?_)
      refine q_aload_n hG rfl rfl ?_
      refine q_iconst (v := 0) hG rfl rfl ?_
      refine q_laldX hG rfl hk9 hj9 ?_
      refine q_iload hG rfl rfl ?_
      refine q_i2l hG rfl ?_
      refine q_lcmp_same hG rfl ?_
      refine q_if_eq hG rfl ⟨by omega, by omega⟩ (fun _ => ?_) (fun q => absurd (by decide) q)
      refine q_goto hG rfl ?_
      exact hend _ _ _ _ _ (INV.of hb hKI u sC sM2 f g (hWI.up))
    · exfalso
      rw [a1] at b1; cases b1
  · have u : upB B (junk B 6) := upB.junk B
    have ct : trf I J := fr150 c1
    have f : frX I J := trf.X ct
    have sC := sC0.trf ct
    have sM := sM0.cls f
    have hm9 := hm.cg u.cg
    have h178 := (u.1 178).trans h178
    have h20 := (u.1 (BIG + 20)).trans h20
    have hk9 := (u.1 184).trans hk4
    have hd9 := (u.1 185).trans hd4
    refine q_istore hG rfl rfl ?_
    refine q_aload_n hG rfl rfl ?_
    refine q_callV6 hG rfl rfl rfl h178 (s_R_wouldChange hm9 sM.1.1 hW hq (fun b1 K k1 k2 k3 => ?_) (fun p2 b1 K k1 k2 k3 => ?_))
    · exfalso
      rw [a1] at b1; cases b1
    · have ht9 := k2
      have sM2 := sM.z k1 k3
      have g := k3.fM
      refine q_istore hG rfl rfl ?_
      refine q_aload_n hG rfl rfl ?_
      refine q_callV6 hG rfl rfl rfl h178 (s_R_thrown hm9 ht9 ?_)
      refine q_iload hG rfl rfl ?_
      refine q_icmp_eq hG rfl ⟨by omega, by omega⟩ ⟨by omega, by omega⟩ (fun _ => ?_) (fun q => absurd (by decide) q)
      refine q_iload hG rfl rfl ?_
      refine q_if_ne hG rfl ⟨by omega, by omega⟩ (fun _ => ?_) (fun q => absurd (by decide) q)
      refine q_goto hG rfl ?_
      exact hend _ _ _ _ _ (INV.of hb hKI u sC sM2 f g (hWI.up))
set_option maxRecDepth 100000 in
theorem lc_26 {d : Nat} {Post : Out → HP → Prop} {G : Nat → LV → List Value → HP → Prop} (hG : Cl (Sp (d + 21)) md_L_law Post G) {N L : Nat} {B : HP} {I : IM} (hI : INV N L B I) (hN : N ≤ 512) {i : Nat} (hi : i + 5 ≤ L) (hL : L ≤ 2560) (hend : ∀ (B2 : HP) (K : IM) (l6 l7 l8 : Option Value), INV (N + 1) L B2 K → G 2835 [some (.ref (BIG + 20)), some (.ref 0), some (.ref 178), some (.ref 184), some (.ref 185), some (.int (i3 (i : Int))), l6, l7, l8] [] (wI B2 K)) (l6 l7 l8 : Option Value) : G 1643 [some (.ref (BIG + 20)), some (.ref 0), some (.ref 178), some (.ref 184), some (.ref 185), some (.int (i3 (i : Int))), l6, l7, l8] [] (wI B I) := by
  obtain ⟨R, c, h, sv, SR, eo, why, det, cau, o, l, hb, hKI, sC0, sM0, hWI⟩ := hI
  have hb0 := hb
  obtain ⟨hX, hm, hk4, hd4, h20, hn1, hw1, hv0⟩ := hb0
  have h0 := hX.1
  have h178 := hm.1
  have hW := hWI.1
  have w0 := hW.1
  have w1 := hW.2.1
  have hq : 20000 * (N : Int) ≤ 2000000000 := by omega
  have hC := sC0.1
  have hR := hC.1
  have hrW := hWI.2.2.2.1
  obtain ⟨x1, e1⟩ : ∃ v, I (BIG + 20) (i + 1) = v := ⟨_, rfl⟩
  have r1 : r32 x1 := e1 ▸ hKI.2.2.2 (i + 1)
  have ra1 := r1.1
  have rb1 := r1.2
  refine q_aload_n hG rfl rfl ?_
  refine q_aload_n hG rfl rfl ?_
  refine q_iload hG rfl rfl ?_
  refine q_iconst (v := 1) hG rfl rfl ?_
  refine q_iadd hG rfl ?_
  refine q_iald9v (v := x1) hG rfl h20 ⟨by omega, by omega, by omega⟩ (by rw [show ((i : Int) + 1).toNat = i + 1 by omega]; exact e1) ?_
  refine q_aload_n hG rfl rfl ?_
  refine q_callS0 hG rfl rfl rfl (s_L_lowestHeight h0 (fun P y z2 z3 => s_X_lowestHeight hX hR hW hq r1 (fun a1 => z2 _ _ ?_) (fun a1 a2 J c1 => y _ _ _ hk4 ?_) (fun a1 a2 J c1 => z3 _ _ ?_)))
  · have u : upB B (junk B 6) := upB.junk B
    have f : frX I I := frX.refl I
    have sC := sC0
    have sM := sM0
    have hm9 := hm.cg u.cg
    have h178 := (u.1 178).trans h178
    have h20 := (u.1 (BIG + 20)).trans h20
    have hk9 := (u.1 184).trans hk4
    have hd9 := (u.1 185).trans hd4
    refine q_istore hG rfl rfl ?_
    refine q_aload_n hG rfl rfl ?_
    refine q_aload_n hG rfl rfl ?_
    refine q_iload hG rfl rfl ?_
    refine q_iconst (v := 1) hG rfl rfl ?_
    refine q_iadd hG rfl ?_
    refine q_iald9v (v := x1) hG rfl h20 ⟨by omega, by omega, by omega⟩ (by rw [show ((i : Int) + 1).toNat = i + 1 by omega]; exact e1) ?_
    refine q_callV6 hG rfl rfl rfl h178 (s_R_lowestHeight hm9 sM.1.1 hW hq r1 (fun b1 => ?_) (fun b1 b2 K k1 k2 k3 => ?_) (fun b1 p2 b2 K k1 k2 k3 => ?_))
    · have ht9 : st I 178 0 1 178 0 = 1 := st_same _ _ _ _
      have sM2 := sM.t 1
      have g : frM I (st I 178 0 1) := ((sth.refl I 178).t 1).fM
      refine q_istore hG rfl rfl ?_
      refine q_aload_n hG rfl rfl ?_
      refine q_callV6 hG rfl rfl rfl h178 (s_R_thrown hm9 ht9 ?_)
      refine q_iload hG rfl rfl ?_
      refine q_icmp_eq hG rfl ⟨by omega, by omega⟩ ⟨by omega, by omega⟩ (fun _ => ?_) (fun q => absurd (by decide) q)
      refine q_iload hG rfl rfl ?_
      refine q_if_ne hG rfl ⟨by omega, by omega⟩ (fun _ => ?_) (fun q => absurd (by decide) q)
      refine q_goto hG rfl ?_
      exact hend _ _ _ _ _ (INV.of hb hKI u sC sM2 f g (hWI.up))
    · exfalso
      first | contradiction | omega
    · exfalso
      first | contradiction | omega
  · have u : upB B (sJ B 184 0 (i3 ((stR2 R 0).2.1.1 x1.toNat)).toInt64) := (upB.refl B).J (i3 ((stR2 R 0).2.1.1 x1.toNat)).toInt64
    have hj9 : hJ (sJ B 184 0 (i3 ((stR2 R 0).2.1.1 x1.toNat)).toInt64) 184 0 = (i3 ((stR2 R 0).2.1.1 x1.toNat)).toInt64 := sJ_at B _
    have f : frX I J := trf.X c1
    have sC := sC0.trf c1
    have sM := sM0.cls f
    have hm9 := hm.cg u.cg
    have h178 := (u.1 178).trans h178
    have h20 := (u.1 (BIG + 20)).trans h20
    have hk9 := (u.1 184).trans hk4
    have hd9 := (u.1 185).trans hd4
    have e1 : J (BIG + 20) (i + 1) = x1 := by rw [f (BIG + 20) (Or.inr (by omega))]; exact e1
    refine q_istore hG rfl rfl ?_
    refine q_aload_n hG rfl rfl ?_
    refine q_aload_n hG rfl rfl ?_
    refine q_iload hG rfl rfl ?_
    refine q_iconst (v := 1) hG rfl rfl ?_
    refine q_iadd hG rfl ?_
    refine q_iald9v (v := x1) hG rfl h20 ⟨by omega, by omega, by omega⟩ (by rw [show ((i : Int) + 1).toNat = i + 1 by omega]; exact e1) ?_
    refine q_callV6 hG rfl rfl rfl h178 (s_R_lowestHeight hm9 sM.1.1 hW hq r1 (fun b1 => ?_) (fun b1 b2 K k1 k2 k3 => ?_) (fun b1 p2 b2 K k1 k2 k3 => ?_))
    · exfalso
      first | contradiction | omega
    · have ht9 := k2
      have sM2 := sM.z k1 k3
      have g := k3.fM
      refine q_istore hG rfl rfl ?_
      refine q_aload_n hG rfl rfl ?_
      refine q_callV6 hG rfl rfl rfl h178 (s_R_thrown hm9 ht9 ?_)
      refine q_iload hG rfl rfl ?_
      refine q_icmp_eq hG rfl ⟨by omega, by omega⟩ ⟨by omega, by omega⟩ (fun _ => ?_) (fun q => absurd (by decide) q)
      refine q_iload hG rfl rfl ?_
      refine q_if_ne hG rfl ⟨by omega, by omega⟩ (fun q => absurd q (by decide)) (fun _ => ?_)
      refine q_aload_n hG rfl rfl ?_
      refine q_iconst (v := 0) hG rfl rfl ?_
      refine q_laldX hG rfl hk9 hj9 ?_
      refine q_iload hG rfl rfl ?_
      refine q_i2l hG rfl ?_
      refine q_lcmp_same hG rfl ?_
      refine q_if_eq hG rfl ⟨by omega, by omega⟩ (fun _ => ?_) (fun q => absurd (by decide) q)
      refine q_goto hG rfl ?_
      exact hend _ _ _ _ _ (INV.of hb hKI u sC sM2 f g (hWI.up))
    · exfalso
      rw [a2] at b2; cases b2
  · have u : upB B (junk B 6) := upB.junk B
    have f : frX I J := trf.X c1
    have sC := sC0.trf c1
    have sM := sM0.cls f
    have hm9 := hm.cg u.cg
    have h178 := (u.1 178).trans h178
    have h20 := (u.1 (BIG + 20)).trans h20
    have hk9 := (u.1 184).trans hk4
    have hd9 := (u.1 185).trans hd4
    have e1 : J (BIG + 20) (i + 1) = x1 := by rw [f (BIG + 20) (Or.inr (by omega))]; exact e1
    refine q_istore hG rfl rfl ?_
    refine q_aload_n hG rfl rfl ?_
    refine q_aload_n hG rfl rfl ?_
    refine q_iload hG rfl rfl ?_
    refine q_iconst (v := 1) hG rfl rfl ?_
    refine q_iadd hG rfl ?_
    refine q_iald9v (v := x1) hG rfl h20 ⟨by omega, by omega, by omega⟩ (by rw [show ((i : Int) + 1).toNat = i + 1 by omega]; exact e1) ?_
    refine q_callV6 hG rfl rfl rfl h178 (s_R_lowestHeight hm9 sM.1.1 hW hq r1 (fun b1 => ?_) (fun b1 b2 K k1 k2 k3 => ?_) (fun b1 p2 b2 K k1 k2 k3 => ?_))
    · exfalso
      first | contradiction | omega
    · exfalso
      exact a2 b2
    · have ht9 := k2
      have sM2 := sM.z k1 k3
      have g := k3.fM
      refine q_istore hG rfl rfl ?_
      refine q_aload_n hG rfl rfl ?_
      refine q_callV6 hG rfl rfl rfl h178 (s_R_thrown hm9 ht9 ?_)
      refine q_iload hG rfl rfl ?_
      refine q_icmp_eq hG rfl ⟨by omega, by omega⟩ ⟨by omega, by omega⟩ (fun _ => ?_) (fun q => absurd (by decide) q)
      refine q_iload hG rfl rfl ?_
      refine q_if_ne hG rfl ⟨by omega, by omega⟩ (fun _ => ?_) (fun q => absurd (by decide) q)
      refine q_goto hG rfl ?_
      exact hend _ _ _ _ _ (INV.of hb hKI u sC sM2 f g (hWI.up))
set_option maxRecDepth 100000 in
theorem lc_27 {d : Nat} {Post : Out → HP → Prop} {G : Nat → LV → List Value → HP → Prop} (hG : Cl (Sp (d + 21)) md_L_law Post G) {N L : Nat} {B : HP} {I : IM} (hI : INV N L B I) (hN : N ≤ 512) {i : Nat} (hi : i + 5 ≤ L) (hL : L ≤ 2560) (hend : ∀ (B2 : HP) (K : IM) (l6 l7 l8 : Option Value), INV (N + 1) L B2 K → G 2835 [some (.ref (BIG + 20)), some (.ref 0), some (.ref 178), some (.ref 184), some (.ref 185), some (.int (i3 (i : Int))), l6, l7, l8] [] (wI B2 K)) (l6 l7 l8 : Option Value) : G 1699 [some (.ref (BIG + 20)), some (.ref 0), some (.ref 178), some (.ref 184), some (.ref 185), some (.int (i3 (i : Int))), l6, l7, l8] [] (wI B I) := by
  obtain ⟨R, c, h, sv, SR, eo, why, det, cau, o, l, hb, hKI, sC0, sM0, hWI⟩ := hI
  have hb0 := hb
  obtain ⟨hX, hm, hk4, hd4, h20, hn1, hw1, hv0⟩ := hb0
  have h0 := hX.1
  have h178 := hm.1
  have hW := hWI.1
  have w0 := hW.1
  have w1 := hW.2.1
  have hq : 20000 * (N : Int) ≤ 2000000000 := by omega
  have hC := sC0.1
  have hR := hC.1
  have hrW := hWI.2.2.2.1
  obtain ⟨x1, e1⟩ : ∃ v, I (BIG + 20) (i + 1) = v := ⟨_, rfl⟩
  have r1 : r32 x1 := e1 ▸ hKI.2.2.2 (i + 1)
  have ra1 := r1.1
  have rb1 := r1.2
  refine q_aload_n hG rfl rfl ?_
  refine q_aload_n hG rfl rfl ?_
  refine q_iload hG rfl rfl ?_
  refine q_iconst (v := 1) hG rfl rfl ?_
  refine q_iadd hG rfl ?_
  refine q_iald9v (v := x1) hG rfl h20 ⟨by omega, by omega, by omega⟩ (by rw [show ((i : Int) + 1).toNat = i + 1 by omega]; exact e1) ?_
  refine q_aload_n hG rfl rfl ?_
  refine q_callS0 hG rfl rfl rfl (s_L_lowestHeightByPaths h0 (fun P y z2 z3 => s_X_lowestByPaths hX hR hW hq r1 (fun k hk => (hC.2.2.2.2.2.2.2.2 k hk).1) (fun a1 => z2 _ _ ?_) (fun a1 a2 J c1 => y _ _ _ hk4 ?_) (fun a1 a2 J c1 => z3 _ _ ?_)))
  · have u : upB B (junk B 6) := upB.junk B
    have f : frX I I := frX.refl I
    have sC := sC0
    have sM := sM0
    have hm9 := hm.cg u.cg
    have h178 := (u.1 178).trans h178
    have h20 := (u.1 (BIG + 20)).trans h20
    have hk9 := (u.1 184).trans hk4
    have hd9 := (u.1 185).trans hd4
    refine q_istore hG rfl rfl ?_
    refine q_aload_n hG rfl rfl ?_
    refine q_aload_n hG rfl rfl ?_
    refine q_iload hG rfl rfl ?_
    refine q_iconst (v := 1) hG rfl rfl ?_
    refine q_iadd hG rfl ?_
    refine q_iald9v (v := x1) hG rfl h20 ⟨by omega, by omega, by omega⟩ (by rw [show ((i : Int) + 1).toNat = i + 1 by omega]; exact e1) ?_
    refine q_callV6 hG rfl rfl rfl h178 (s_R_lowestByPaths hm9 sM.1.1 hW hq r1 (fun b1 => ?_) (fun b1 b2 K k1 k2 k3 => ?_) (fun b1 p2 b2 K k1 k2 k3 => ?_))
    · have ht9 : st I 178 0 1 178 0 = 1 := st_same _ _ _ _
      have sM2 := sM.t 1
      have g : frM I (st I 178 0 1) := ((sth.refl I 178).t 1).fM
      refine q_istore hG rfl rfl ?_
      refine q_aload_n hG rfl rfl ?_
      refine q_callV6 hG rfl rfl rfl h178 (s_R_thrown hm9 ht9 ?_)
      refine q_iload hG rfl rfl ?_
      refine q_icmp_eq hG rfl ⟨by omega, by omega⟩ ⟨by omega, by omega⟩ (fun _ => ?_) (fun q => absurd (by decide) q)
      refine q_iload hG rfl rfl ?_
      refine q_if_ne hG rfl ⟨by omega, by omega⟩ (fun _ => ?_) (fun q => absurd (by decide) q)
      refine q_goto hG rfl ?_
      exact hend _ _ _ _ _ (INV.of hb hKI u sC sM2 f g (hWI.up))
    · exfalso
      first | contradiction | omega
    · exfalso
      first | contradiction | omega
  · have u : upB B (sJ B 184 0 (i3 ((stR2 R 0).2.1.1 x1.toNat)).toInt64) := (upB.refl B).J (i3 ((stR2 R 0).2.1.1 x1.toNat)).toInt64
    have hj9 : hJ (sJ B 184 0 (i3 ((stR2 R 0).2.1.1 x1.toNat)).toInt64) 184 0 = (i3 ((stR2 R 0).2.1.1 x1.toNat)).toInt64 := sJ_at B _
    have f : frX I J := trf.X c1
    have sC := sC0.trf c1
    have sM := sM0.cls f
    have hm9 := hm.cg u.cg
    have h178 := (u.1 178).trans h178
    have h20 := (u.1 (BIG + 20)).trans h20
    have hk9 := (u.1 184).trans hk4
    have hd9 := (u.1 185).trans hd4
    have e1 : J (BIG + 20) (i + 1) = x1 := by rw [f (BIG + 20) (Or.inr (by omega))]; exact e1
    refine q_istore hG rfl rfl ?_
    refine q_aload_n hG rfl rfl ?_
    refine q_aload_n hG rfl rfl ?_
    refine q_iload hG rfl rfl ?_
    refine q_iconst (v := 1) hG rfl rfl ?_
    refine q_iadd hG rfl ?_
    refine q_iald9v (v := x1) hG rfl h20 ⟨by omega, by omega, by omega⟩ (by rw [show ((i : Int) + 1).toNat = i + 1 by omega]; exact e1) ?_
    refine q_callV6 hG rfl rfl rfl h178 (s_R_lowestByPaths hm9 sM.1.1 hW hq r1 (fun b1 => ?_) (fun b1 b2 K k1 k2 k3 => ?_) (fun b1 p2 b2 K k1 k2 k3 => ?_))
    · exfalso
      first | contradiction | omega
    · have ht9 := k2
      have sM2 := sM.z k1 k3
      have g := k3.fM
      refine q_istore hG rfl rfl ?_
      refine q_aload_n hG rfl rfl ?_
      refine q_callV6 hG rfl rfl rfl h178 (s_R_thrown hm9 ht9 ?_)
      refine q_iload hG rfl rfl ?_
      refine q_icmp_eq hG rfl ⟨by omega, by omega⟩ ⟨by omega, by omega⟩ (fun _ => ?_) (fun q => absurd (by decide) q)
      refine q_iload hG rfl rfl ?_
      refine q_if_ne hG rfl ⟨by omega, by omega⟩ (fun q => absurd q (by decide)) (fun _ => ?_)
      refine q_aload_n hG rfl rfl ?_
      refine q_iconst (v := 0) hG rfl rfl ?_
      refine q_laldX hG rfl hk9 hj9 ?_
      refine q_iload hG rfl rfl ?_
      refine q_i2l hG rfl ?_
      refine q_lcmp_same hG rfl ?_
      refine q_if_eq hG rfl ⟨by omega, by omega⟩ (fun _ => ?_) (fun q => absurd (by decide) q)
      refine q_goto hG rfl ?_
      exact hend _ _ _ _ _ (INV.of hb hKI u sC sM2 f g (hWI.up))
    · exfalso
      rw [a2] at b2; cases b2
  · have u : upB B (junk B 6) := upB.junk B
    have f : frX I J := trf.X c1
    have sC := sC0.trf c1
    have sM := sM0.cls f
    have hm9 := hm.cg u.cg
    have h178 := (u.1 178).trans h178
    have h20 := (u.1 (BIG + 20)).trans h20
    have hk9 := (u.1 184).trans hk4
    have hd9 := (u.1 185).trans hd4
    have e1 : J (BIG + 20) (i + 1) = x1 := by rw [f (BIG + 20) (Or.inr (by omega))]; exact e1
    refine q_istore hG rfl rfl ?_
    refine q_aload_n hG rfl rfl ?_
    refine q_aload_n hG rfl rfl ?_
    refine q_iload hG rfl rfl ?_
    refine q_iconst (v := 1) hG rfl rfl ?_
    refine q_iadd hG rfl ?_
    refine q_iald9v (v := x1) hG rfl h20 ⟨by omega, by omega, by omega⟩ (by rw [show ((i : Int) + 1).toNat = i + 1 by omega]; exact e1) ?_
    refine q_callV6 hG rfl rfl rfl h178 (s_R_lowestByPaths hm9 sM.1.1 hW hq r1 (fun b1 => ?_) (fun b1 b2 K k1 k2 k3 => ?_) (fun b1 p2 b2 K k1 k2 k3 => ?_))
    · exfalso
      first | contradiction | omega
    · exfalso
      exact a2 b2
    · have ht9 := k2
      have sM2 := sM.z k1 k3
      have g := k3.fM
      refine q_istore hG rfl rfl ?_
      refine q_aload_n hG rfl rfl ?_
      refine q_callV6 hG rfl rfl rfl h178 (s_R_thrown hm9 ht9 ?_)
      refine q_iload hG rfl rfl ?_
      refine q_icmp_eq hG rfl ⟨by omega, by omega⟩ ⟨by omega, by omega⟩ (fun _ => ?_) (fun q => absurd (by decide) q)
      refine q_iload hG rfl rfl ?_
      refine q_if_ne hG rfl ⟨by omega, by omega⟩ (fun _ => ?_) (fun q => absurd (by decide) q)
      refine q_goto hG rfl ?_
      exact hend _ _ _ _ _ (INV.of hb hKI u sC sM2 f g (hWI.up))
set_option maxRecDepth 100000 in
theorem lc_34 {d : Nat} {Post : Out → HP → Prop} {G : Nat → LV → List Value → HP → Prop} (hG : Cl (Sp (d + 21)) md_L_law Post G) {N L : Nat} {B : HP} {I : IM} (hI : INV N L B I) (hN : N ≤ 512) {i : Nat} (hi : i + 5 ≤ L) (hL : L ≤ 2560) (hend : ∀ (B2 : HP) (K : IM) (l6 l7 l8 : Option Value), INV (N + 1) L B2 K → G 2835 [some (.ref (BIG + 20)), some (.ref 0), some (.ref 178), some (.ref 184), some (.ref 185), some (.int (i3 (i : Int))), l6, l7, l8] [] (wI B2 K)) (l6 l7 l8 : Option Value) : G 1993 [some (.ref (BIG + 20)), some (.ref 0), some (.ref 178), some (.ref 184), some (.ref 185), some (.int (i3 (i : Int))), l6, l7, l8] [] (wI B I) := by
  obtain ⟨R, c, h, sv, SR, eo, why, det, cau, o, l, hb, hKI, sC0, sM0, hWI⟩ := hI
  have hb0 := hb
  obtain ⟨hX, hm, hk4, hd4, h20, hn1, hw1, hv0⟩ := hb0
  have h0 := hX.1
  have h178 := hm.1
  have hW := hWI.1
  have w0 := hW.1
  have w1 := hW.2.1
  have hq : 20000 * (N : Int) ≤ 2000000000 := by omega
  have hC := sC0.1
  have hR := hC.1
  have hrW := hWI.2.2.2.1
  obtain ⟨x1, e1⟩ : ∃ v, I (BIG + 20) (i + 1) = v := ⟨_, rfl⟩
  have r1 : r32 x1 := e1 ▸ hKI.2.2.2 (i + 1)
  have ra1 := r1.1
  have rb1 := r1.2
  refine q_aload_n hG rfl rfl ?_
  refine q_aload_n hG rfl rfl ?_
  refine q_iload hG rfl rfl ?_
  refine q_iconst (v := 1) hG rfl rfl ?_
  refine q_iadd hG rfl ?_
  refine q_iald9v (v := x1) hG rfl h20 ⟨by omega, by omega, by omega⟩ (by rw [show ((i : Int) + 1).toNat = i + 1 by omega]; exact e1) ?_
  refine q_aload_n hG rfl rfl ?_
  refine q_callS0 hG rfl rfl rfl (s_L_doorByWidth h0 (fun P y z3 => s_X_doorByWidth hX hR hW hq r1 (fun a1 => z3 _ _ ?_) (fun p a1 => y _ _ _ hk4 ?_)))
  · have u : upB B (junk B 6) := upB.junk B
    have f : frX I I := frX.refl I
    have sC := sC0
    have sM := sM0
    have hm9 := hm.cg u.cg
    have h178 := (u.1 178).trans h178
    have h20 := (u.1 (BIG + 20)).trans h20
    have hk9 := (u.1 184).trans hk4
    have hd9 := (u.1 185).trans hd4
    refine q_istore hG rfl rfl ?_
    refine q_aload_n hG rfl rfl ?_
    refine q_aload_n hG rfl rfl ?_
    refine q_iload hG rfl rfl ?_
    refine q_iconst (v := 1) hG rfl rfl ?_
    refine q_iadd hG rfl ?_
    refine q_iald9v (v := x1) hG rfl h20 ⟨by omega, by omega, by omega⟩ (by rw [show ((i : Int) + 1).toNat = i + 1 by omega]; exact e1) ?_
    refine q_callV6 hG rfl rfl rfl h178 (s_R_dwCount hm9 sM.1.1 hW hq r1 (fun p2 b1 K k1 k2 => ?_) (fun b1 K k1 k2 => ?_))
    · exfalso
      exact a1 p2 b1.1 b1.2.1
    · have ht9 := k2
      have sM2 := sM.sth k1
      have g := k1.fM
      refine q_istore hG rfl rfl ?_
      refine q_aload_n hG rfl rfl ?_
      refine q_callV6 hG rfl rfl rfl h178 (s_R_thrown hm9 ht9 ?_)
      refine q_iload hG rfl rfl ?_
      refine q_icmp_eq hG rfl ⟨by omega, by omega⟩ ⟨by omega, by omega⟩ (fun _ => ?_) (fun q => absurd (by decide) q)
      refine q_iload hG rfl rfl ?_
      refine q_if_ne hG rfl ⟨by omega, by omega⟩ (fun _ => ?_) (fun q => absurd (by decide) q)
      refine q_goto hG rfl ?_
      exact hend _ _ _ _ _ (INV.of hb hKI u sC sM2 f g (hWI.up))
  · have u : upB B (sJ B 184 0 (i3 ((p : Int))).toInt64) := (upB.refl B).J (i3 ((p : Int))).toInt64
    have hj9 : hJ (sJ B 184 0 (i3 ((p : Int))).toInt64) 184 0 = (i3 ((p : Int))).toInt64 := sJ_at B _
    have f : frX I I := frX.refl I
    have sC := sC0
    have sM := sM0
    have hm9 := hm.cg u.cg
    have h178 := (u.1 178).trans h178
    have h20 := (u.1 (BIG + 20)).trans h20
    have hk9 := (u.1 184).trans hk4
    have hd9 := (u.1 185).trans hd4
    refine q_istore hG rfl rfl ?_
    refine q_aload_n hG rfl rfl ?_
    refine q_aload_n hG rfl rfl ?_
    refine q_iload hG rfl rfl ?_
    refine q_iconst (v := 1) hG rfl rfl ?_
    refine q_iadd hG rfl ?_
    refine q_iald9v (v := x1) hG rfl h20 ⟨by omega, by omega, by omega⟩ (by rw [show ((i : Int) + 1).toNat = i + 1 by omega]; exact e1) ?_
    refine q_callV6 hG rfl rfl rfl h178 (s_R_dwCount hm9 sM.1.1 hW hq r1 (fun p2 b1 K k1 k2 => ?_) (fun b1 K k1 k2 => ?_))
    · have ep := fst_u a1 b1
      subst ep
      have ht9 := k2
      have sM2 := sM.sth k1
      have g := k1.fM
      refine q_istore hG rfl rfl ?_
      refine q_aload_n hG rfl rfl ?_
      refine q_callV6 hG rfl rfl rfl h178 (s_R_thrown hm9 ht9 ?_)
      refine q_iload hG rfl rfl ?_
      refine q_icmp_eq hG rfl ⟨by omega, by omega⟩ ⟨by omega, by omega⟩ (fun _ => ?_) (fun q => absurd (by decide) q)
      refine q_iload hG rfl rfl ?_
      refine q_if_ne hG rfl ⟨by omega, by omega⟩ (fun q => absurd q (by decide)) (fun _ => ?_)
      refine q_aload_n hG rfl rfl ?_
      refine q_iconst (v := 0) hG rfl rfl ?_
      refine q_laldX hG rfl hk9 hj9 ?_
      refine q_iload hG rfl rfl ?_
      refine q_i2l hG rfl ?_
      refine q_lcmp_same hG rfl ?_
      refine q_if_eq hG rfl ⟨by omega, by omega⟩ (fun _ => ?_) (fun q => absurd (by decide) q)
      refine q_goto hG rfl ?_
      exact hend _ _ _ _ _ (INV.of hb hKI u sC sM2 f g (hWI.up))
    · exfalso
      exact b1 p a1.1 a1.2.1
set_option maxRecDepth 100000 in
theorem lc_35 {d : Nat} {Post : Out → HP → Prop} {G : Nat → LV → List Value → HP → Prop} (hG : Cl (Sp (d + 21)) md_L_law Post G) {N L : Nat} {B : HP} {I : IM} (hI : INV N L B I) (hN : N ≤ 512) {i : Nat} (hi : i + 5 ≤ L) (hL : L ≤ 2560) (hend : ∀ (B2 : HP) (K : IM) (l6 l7 l8 : Option Value), INV (N + 1) L B2 K → G 2835 [some (.ref (BIG + 20)), some (.ref 0), some (.ref 178), some (.ref 184), some (.ref 185), some (.int (i3 (i : Int))), l6, l7, l8] [] (wI B2 K)) (l6 l7 l8 : Option Value) : G 2049 [some (.ref (BIG + 20)), some (.ref 0), some (.ref 178), some (.ref 184), some (.ref 185), some (.int (i3 (i : Int))), l6, l7, l8] [] (wI B I) := by
  obtain ⟨R, c, h, sv, SR, eo, why, det, cau, o, l, hb, hKI, sC0, sM0, hWI⟩ := hI
  have hb0 := hb
  obtain ⟨hX, hm, hk4, hd4, h20, hn1, hw1, hv0⟩ := hb0
  have h0 := hX.1
  have h178 := hm.1
  have hW := hWI.1
  have w0 := hW.1
  have w1 := hW.2.1
  have hq : 20000 * (N : Int) ≤ 2000000000 := by omega
  have hC := sC0.1
  have hR := hC.1
  have hrW := hWI.2.2.2.1
  obtain ⟨x1, e1⟩ : ∃ v, I (BIG + 20) (i + 1) = v := ⟨_, rfl⟩
  have r1 : r32 x1 := e1 ▸ hKI.2.2.2 (i + 1)
  have ra1 := r1.1
  have rb1 := r1.2
  refine q_aload_n hG rfl rfl ?_
  refine q_aload_n hG rfl rfl ?_
  refine q_iload hG rfl rfl ?_
  refine q_iconst (v := 1) hG rfl rfl ?_
  refine q_iadd hG rfl ?_
  refine q_iald9v (v := x1) hG rfl h20 ⟨by omega, by omega, by omega⟩ (by rw [show ((i : Int) + 1).toNat = i + 1 by omega]; exact e1) ?_
  refine q_aload_n hG rfl rfl ?_
  refine q_callS0 hG rfl rfl rfl (s_L_constraintByGap h0 (fun P y z3 => s_X_constraintByGap hX hR hW hq r1 (fun a1 => z3 _ _ ?_) (fun p a1 => y _ _ _ hk4 ?_)))
  · have u : upB B (junk B 6) := upB.junk B
    have f : frX I I := frX.refl I
    have sC := sC0
    have sM := sM0
    have hm9 := hm.cg u.cg
    have h178 := (u.1 178).trans h178
    have h20 := (u.1 (BIG + 20)).trans h20
    have hk9 := (u.1 184).trans hk4
    have hd9 := (u.1 185).trans hd4
    refine q_istore hG rfl rfl ?_
    refine q_aload_n hG rfl rfl ?_
    refine q_aload_n hG rfl rfl ?_
    refine q_iload hG rfl rfl ?_
    refine q_iconst (v := 1) hG rfl rfl ?_
    refine q_iadd hG rfl ?_
    refine q_iald9v (v := x1) hG rfl h20 ⟨by omega, by omega, by omega⟩ (by rw [show ((i : Int) + 1).toNat = i + 1 by omega]; exact e1) ?_
    refine q_callV6 hG rfl rfl rfl h178 (s_R_cgCount hm9 sM.1.1 hW hq r1 (fun p2 b1 K k1 k2 => ?_) (fun b1 K k1 k2 => ?_))
    · exfalso
      exact a1 p2 b1.1 b1.2.1
    · have ht9 := k2
      have sM2 := sM.sth k1
      have g := k1.fM
      refine q_istore hG rfl rfl ?_
      refine q_aload_n hG rfl rfl ?_
      refine q_callV6 hG rfl rfl rfl h178 (s_R_thrown hm9 ht9 ?_)
      refine q_iload hG rfl rfl ?_
      refine q_icmp_eq hG rfl ⟨by omega, by omega⟩ ⟨by omega, by omega⟩ (fun _ => ?_) (fun q => absurd (by decide) q)
      refine q_iload hG rfl rfl ?_
      refine q_if_ne hG rfl ⟨by omega, by omega⟩ (fun _ => ?_) (fun q => absurd (by decide) q)
      refine q_goto hG rfl ?_
      exact hend _ _ _ _ _ (INV.of hb hKI u sC sM2 f g (hWI.up))
  · have u : upB B (sJ B 184 0 (i3 (R (29 + 5 * p))).toInt64) := (upB.refl B).J (i3 (R (29 + 5 * p))).toInt64
    have hj9 : hJ (sJ B 184 0 (i3 (R (29 + 5 * p))).toInt64) 184 0 = (i3 (R (29 + 5 * p))).toInt64 := sJ_at B _
    have f : frX I I := frX.refl I
    have sC := sC0
    have sM := sM0
    have hm9 := hm.cg u.cg
    have h178 := (u.1 178).trans h178
    have h20 := (u.1 (BIG + 20)).trans h20
    have hk9 := (u.1 184).trans hk4
    have hd9 := (u.1 185).trans hd4
    refine q_istore hG rfl rfl ?_
    refine q_aload_n hG rfl rfl ?_
    refine q_aload_n hG rfl rfl ?_
    refine q_iload hG rfl rfl ?_
    refine q_iconst (v := 1) hG rfl rfl ?_
    refine q_iadd hG rfl ?_
    refine q_iald9v (v := x1) hG rfl h20 ⟨by omega, by omega, by omega⟩ (by rw [show ((i : Int) + 1).toNat = i + 1 by omega]; exact e1) ?_
    refine q_callV6 hG rfl rfl rfl h178 (s_R_cgCount hm9 sM.1.1 hW hq r1 (fun p2 b1 K k1 k2 => ?_) (fun b1 K k1 k2 => ?_))
    · have ep := fst_u a1 b1
      subst ep
      have ht9 := k2
      have sM2 := sM.sth k1
      have g := k1.fM
      refine q_istore hG rfl rfl ?_
      refine q_aload_n hG rfl rfl ?_
      refine q_callV6 hG rfl rfl rfl h178 (s_R_thrown hm9 ht9 ?_)
      refine q_iload hG rfl rfl ?_
      refine q_icmp_eq hG rfl ⟨by omega, by omega⟩ ⟨by omega, by omega⟩ (fun _ => ?_) (fun q => absurd (by decide) q)
      refine q_iload hG rfl rfl ?_
      refine q_if_ne hG rfl ⟨by omega, by omega⟩ (fun q => absurd q (by decide)) (fun _ => ?_)
      refine q_aload_n hG rfl rfl ?_
      refine q_iconst (v := 0) hG rfl rfl ?_
      refine q_laldX hG rfl hk9 hj9 ?_
      refine q_iload hG rfl rfl ?_
      refine q_i2l hG rfl ?_
      refine q_lcmp_same hG rfl ?_
      refine q_if_eq hG rfl ⟨by omega, by omega⟩ (fun _ => ?_) (fun q => absurd (by decide) q)
      refine q_goto hG rfl ?_
      exact hend _ _ _ _ _ (INV.of hb hKI u sC sM2 f g (hWI.up))
    · exfalso
      exact b1 p a1.1 a1.2.1
set_option maxRecDepth 100000 in
theorem lc_41 {d : Nat} {Post : Out → HP → Prop} {G : Nat → LV → List Value → HP → Prop} (hG : Cl (Sp (d + 21)) md_L_law Post G) {N L : Nat} {B : HP} {I : IM} (hI : INV N L B I) (hN : N ≤ 512) {i : Nat} (hi : i + 5 ≤ L) (hL : L ≤ 2560) (hend : ∀ (B2 : HP) (K : IM) (l6 l7 l8 : Option Value), INV (N + 1) L B2 K → G 2835 [some (.ref (BIG + 20)), some (.ref 0), some (.ref 178), some (.ref 184), some (.ref 185), some (.int (i3 (i : Int))), l6, l7, l8] [] (wI B2 K)) (l6 l7 l8 : Option Value) : G 2275 [some (.ref (BIG + 20)), some (.ref 0), some (.ref 178), some (.ref 184), some (.ref 185), some (.int (i3 (i : Int))), l6, l7, l8] [] (wI B I) := by
  obtain ⟨R, c, h, sv, SR, eo, why, det, cau, o, l, hb, hKI, sC0, sM0, hWI⟩ := hI
  have hb0 := hb
  obtain ⟨hX, hm, hk4, hd4, h20, hn1, hw1, hv0⟩ := hb0
  have h0 := hX.1
  have h178 := hm.1
  have hW := hWI.1
  have w0 := hW.1
  have w1 := hW.2.1
  have hq : 20000 * (N : Int) ≤ 2000000000 := by omega
  have hC := sC0.1
  have hR := hC.1
  have hrW := hWI.2.2.2.1
  refine q_aload_n hG rfl rfl ?_
  refine q_callV6 hG rfl rfl rfl h0 (s_X_isConsistent hX hR hW hq (fun k hk => (hC.2.2.2.2.2.2.2.2 k hk).1) (fun J c1 => ?_))
  have u : upB B B := upB.refl B
  have f : frX I J := trf.X c1
  have sC := sC0.trf c1
  have sM := sM0.cls f
  have hm9 := hm.cg u.cg
  have h178 := (u.1 178).trans h178
  have h20 := (u.1 (BIG + 20)).trans h20
  have hk9 := (u.1 184).trans hk4
  have hd9 := (u.1 185).trans hd4
  refine q_aload_n hG rfl rfl ?_
  refine q_callV6 hG rfl rfl rfl h178 (s_R_isConsistent hm9 ?_)
  have ht9 : st J 178 0 0 178 0 = 0 := st_same _ _ _ _
  have sM2 := sM.t 0
  have g : frM J (st J 178 0 0) := ((sth.refl J 178).t 0).fM
  refine q_icmp_eq hG rfl ⟨by omega, by omega⟩ ⟨by omega, by omega⟩ (fun _ => ?_) (fun q => absurd (by decide) q)
  exact hend _ _ _ _ _ (INV.of hb hKI u sC sM2 f g (hWI.up))
set_option maxRecDepth 100000 in
theorem lc_47 {d : Nat} {Post : Out → HP → Prop} {G : Nat → LV → List Value → HP → Prop} (hG : Cl (Sp (d + 21)) md_L_law Post G) {N L : Nat} {B : HP} {I : IM} (hI : INV N L B I) (hN : N ≤ 512) {i : Nat} (hi : i + 5 ≤ L) (hL : L ≤ 2560) (hend : ∀ (B2 : HP) (K : IM) (l6 l7 l8 : Option Value), INV (N + 1) L B2 K → G 2835 [some (.ref (BIG + 20)), some (.ref 0), some (.ref 178), some (.ref 184), some (.ref 185), some (.int (i3 (i : Int))), l6, l7, l8] [] (wI B2 K)) (l6 l7 l8 : Option Value) : G 2558 [some (.ref (BIG + 20)), some (.ref 0), some (.ref 178), some (.ref 184), some (.ref 185), some (.int (i3 (i : Int))), l6, l7, l8] [] (wI B I) := by
  obtain ⟨R, c, h, sv, SR, eo, why, det, cau, o, l, hb, hKI, sC0, sM0, hWI⟩ := hI
  have hb0 := hb
  obtain ⟨hX, hm, hk4, hd4, h20, hn1, hw1, hv0⟩ := hb0
  have h0 := hX.1
  have h178 := hm.1
  have hW := hWI.1
  have w0 := hW.1
  have w1 := hW.2.1
  have hq : 20000 * (N : Int) ≤ 2000000000 := by omega
  have hC := sC0.1
  have hR := hC.1
  have hrW := hWI.2.2.2.1
  refine q_aload_n hG rfl rfl ?_
  refine q_aload_n hG rfl rfl ?_
  refine q_callS0 hG rfl rfl rfl (s_L_syntaxErrorOffset h0 (fun P y z3 => s_X_syntaxErrorOffset (z0 := 0) hX hC.2.2.2.2.1 hC.2.2.2.2.1 hrW.1 (fun a1 => z3 _ _ ?_) (fun a1 => y _ _ _ hk4 ?_)))
  · have u : upB B (junk B 6) := upB.junk B
    have f : frX I I := frX.refl I
    have sC := sC0
    have sM := sM0
    have hm9 := hm.cg u.cg
    have h178 := (u.1 178).trans h178
    have h20 := (u.1 (BIG + 20)).trans h20
    have hk9 := (u.1 184).trans hk4
    have hd9 := (u.1 185).trans hd4
    refine q_istore hG rfl rfl ?_
    refine q_aload_n hG rfl rfl ?_
    refine q_callV6 hG rfl rfl rfl h178 (s_R_syntaxErrorOffset (z0 := 0) hm9 sM.1.2.2.2.2.1 sM.1.2.2.2.2.1 hrW.1 (fun b1 => ?_) (fun b1 => ?_))
    · have ht9 : st I 178 0 1 178 0 = 1 := st_same _ _ _ _
      have sM2 := sM.t 1
      have g : frM I (st I 178 0 1) := ((sth.refl I 178).t 1).fM
      refine q_istore hG rfl rfl ?_
      refine q_aload_n hG rfl rfl ?_
      refine q_callV6 hG rfl rfl rfl h178 (s_R_thrown hm9 ht9 ?_)
      refine q_iload hG rfl rfl ?_
      refine q_icmp_eq hG rfl ⟨by omega, by omega⟩ ⟨by omega, by omega⟩ (fun _ => ?_) (fun q => absurd (by decide) q)
      refine q_iload hG rfl rfl ?_
      refine q_if_ne hG rfl ⟨by omega, by omega⟩ (fun _ => ?_) (fun q => absurd (by decide) q)
      refine q_goto hG rfl ?_
      exact hend _ _ _ _ _ (INV.of hb hKI u sC sM2 f g (hWI.up))
    · exfalso
      first | contradiction | omega
  · have u : upB B (sJ B 184 0 (i3 (eo)).toInt64) := (upB.refl B).J (i3 (eo)).toInt64
    have hj9 : hJ (sJ B 184 0 (i3 (eo)).toInt64) 184 0 = (i3 (eo)).toInt64 := sJ_at B _
    have f : frX I I := frX.refl I
    have sC := sC0
    have sM := sM0
    have hm9 := hm.cg u.cg
    have h178 := (u.1 178).trans h178
    have h20 := (u.1 (BIG + 20)).trans h20
    have hk9 := (u.1 184).trans hk4
    have hd9 := (u.1 185).trans hd4
    refine q_istore hG rfl rfl ?_
    refine q_aload_n hG rfl rfl ?_
    refine q_callV6 hG rfl rfl rfl h178 (s_R_syntaxErrorOffset (z0 := 0) hm9 sM.1.2.2.2.2.1 sM.1.2.2.2.2.1 hrW.1 (fun b1 => ?_) (fun b1 => ?_))
    · exfalso
      first | contradiction | omega
    · have ht9 : st I 178 0 0 178 0 = 0 := st_same _ _ _ _
      have sM2 := sM.t 0
      have g : frM I (st I 178 0 0) := ((sth.refl I 178).t 0).fM
      refine q_istore hG rfl rfl ?_
      refine q_aload_n hG rfl rfl ?_
      refine q_callV6 hG rfl rfl rfl h178 (s_R_thrown hm9 ht9 ?_)
      refine q_iload hG rfl rfl ?_
      refine q_icmp_eq hG rfl ⟨by omega, by omega⟩ ⟨by omega, by omega⟩ (fun _ => ?_) (fun q => absurd (by decide) q)
      refine q_iload hG rfl rfl ?_
      refine q_if_ne hG rfl ⟨by omega, by omega⟩ (fun q => absurd q (by decide)) (fun _ => ?_)
      refine q_aload_n hG rfl rfl ?_
      refine q_iconst (v := 0) hG rfl rfl ?_
      refine q_laldX hG rfl hk9 hj9 ?_
      refine q_iload hG rfl rfl ?_
      refine q_i2l hG rfl ?_
      refine q_lcmp_same hG rfl ?_
      refine q_if_eq hG rfl ⟨by omega, by omega⟩ (fun _ => ?_) (fun q => absurd (by decide) q)
      refine q_goto hG rfl ?_
      exact hend _ _ _ _ _ (INV.of hb hKI u sC sM2 f g (hWI.up))
set_option maxRecDepth 100000 in
theorem lc_48 {d : Nat} {Post : Out → HP → Prop} {G : Nat → LV → List Value → HP → Prop} (hG : Cl (Sp (d + 21)) md_L_law Post G) {N L : Nat} {B : HP} {I : IM} (hI : INV N L B I) (hN : N ≤ 512) {i : Nat} (hi : i + 5 ≤ L) (hL : L ≤ 2560) (hend : ∀ (B2 : HP) (K : IM) (l6 l7 l8 : Option Value), INV (N + 1) L B2 K → G 2835 [some (.ref (BIG + 20)), some (.ref 0), some (.ref 178), some (.ref 184), some (.ref 185), some (.int (i3 (i : Int))), l6, l7, l8] [] (wI B2 K)) (l6 l7 l8 : Option Value) : G 2602 [some (.ref (BIG + 20)), some (.ref 0), some (.ref 178), some (.ref 184), some (.ref 185), some (.int (i3 (i : Int))), l6, l7, l8] [] (wI B I) := by
  obtain ⟨R, c, h, sv, SR, eo, why, det, cau, o, l, hb, hKI, sC0, sM0, hWI⟩ := hI
  have hb0 := hb
  obtain ⟨hX, hm, hk4, hd4, h20, hn1, hw1, hv0⟩ := hb0
  have h0 := hX.1
  have h178 := hm.1
  have hW := hWI.1
  have w0 := hW.1
  have w1 := hW.2.1
  have hq : 20000 * (N : Int) ≤ 2000000000 := by omega
  have hC := sC0.1
  have hR := hC.1
  have hrW := hWI.2.2.2.1
  refine q_aload_n hG rfl rfl ?_
  refine q_aload_n hG rfl rfl ?_
  refine q_callS0 hG rfl rfl rfl (s_L_rejectionReason h0 (fun P y z3 => s_X_rejectionReason (z0 := 0) hX hC.2.2.2.2.2.1 hC.2.2.2.2.2.1 hrW.2 (fun a1 => z3 _ _ ?_) (fun a1 => y _ _ _ hk4 ?_)))
  · have u : upB B (junk B 6) := upB.junk B
    have f : frX I I := frX.refl I
    have sC := sC0
    have sM := sM0
    have hm9 := hm.cg u.cg
    have h178 := (u.1 178).trans h178
    have h20 := (u.1 (BIG + 20)).trans h20
    have hk9 := (u.1 184).trans hk4
    have hd9 := (u.1 185).trans hd4
    refine q_istore hG rfl rfl ?_
    refine q_aload_n hG rfl rfl ?_
    refine q_callV6 hG rfl rfl rfl h178 (s_R_rejectionReason (z0 := 0) hm9 sM.1.2.2.2.2.2.1 sM.1.2.2.2.2.2.1 hrW.2 (fun b1 => ?_) (fun b1 => ?_))
    · have ht9 : st I 178 0 1 178 0 = 1 := st_same _ _ _ _
      have sM2 := sM.t 1
      have g : frM I (st I 178 0 1) := ((sth.refl I 178).t 1).fM
      refine q_istore hG rfl rfl ?_
      refine q_aload_n hG rfl rfl ?_
      refine q_callV6 hG rfl rfl rfl h178 (s_R_thrown hm9 ht9 ?_)
      refine q_iload hG rfl rfl ?_
      refine q_icmp_eq hG rfl ⟨by omega, by omega⟩ ⟨by omega, by omega⟩ (fun _ => ?_) (fun q => absurd (by decide) q)
      refine q_iload hG rfl rfl ?_
      refine q_if_ne hG rfl ⟨by omega, by omega⟩ (fun _ => ?_) (fun q => absurd (by decide) q)
      refine q_goto hG rfl ?_
      exact hend _ _ _ _ _ (INV.of hb hKI u sC sM2 f g (hWI.up))
    · exfalso
      first | contradiction | omega
  · have u : upB B (sJ B 184 0 (i3 (why)).toInt64) := (upB.refl B).J (i3 (why)).toInt64
    have hj9 : hJ (sJ B 184 0 (i3 (why)).toInt64) 184 0 = (i3 (why)).toInt64 := sJ_at B _
    have f : frX I I := frX.refl I
    have sC := sC0
    have sM := sM0
    have hm9 := hm.cg u.cg
    have h178 := (u.1 178).trans h178
    have h20 := (u.1 (BIG + 20)).trans h20
    have hk9 := (u.1 184).trans hk4
    have hd9 := (u.1 185).trans hd4
    refine q_istore hG rfl rfl ?_
    refine q_aload_n hG rfl rfl ?_
    refine q_callV6 hG rfl rfl rfl h178 (s_R_rejectionReason (z0 := 0) hm9 sM.1.2.2.2.2.2.1 sM.1.2.2.2.2.2.1 hrW.2 (fun b1 => ?_) (fun b1 => ?_))
    · exfalso
      first | contradiction | omega
    · have ht9 : st I 178 0 0 178 0 = 0 := st_same _ _ _ _
      have sM2 := sM.t 0
      have g : frM I (st I 178 0 0) := ((sth.refl I 178).t 0).fM
      refine q_istore hG rfl rfl ?_
      refine q_aload_n hG rfl rfl ?_
      refine q_callV6 hG rfl rfl rfl h178 (s_R_thrown hm9 ht9 ?_)
      refine q_iload hG rfl rfl ?_
      refine q_icmp_eq hG rfl ⟨by omega, by omega⟩ ⟨by omega, by omega⟩ (fun _ => ?_) (fun q => absurd (by decide) q)
      refine q_iload hG rfl rfl ?_
      refine q_if_ne hG rfl ⟨by omega, by omega⟩ (fun q => absurd q (by decide)) (fun _ => ?_)
      refine q_aload_n hG rfl rfl ?_
      refine q_iconst (v := 0) hG rfl rfl ?_
      refine q_laldX hG rfl hk9 hj9 ?_
      refine q_iload hG rfl rfl ?_
      refine q_i2l hG rfl ?_
      refine q_lcmp_same hG rfl ?_
      refine q_if_eq hG rfl ⟨by omega, by omega⟩ (fun _ => ?_) (fun q => absurd (by decide) q)
      refine q_goto hG rfl ?_
      exact hend _ _ _ _ _ (INV.of hb hKI u sC sM2 f g (hWI.up))
set_option maxRecDepth 100000 in
theorem lc_49 {d : Nat} {Post : Out → HP → Prop} {G : Nat → LV → List Value → HP → Prop} (hG : Cl (Sp (d + 21)) md_L_law Post G) {N L : Nat} {B : HP} {I : IM} (hI : INV N L B I) (hN : N ≤ 512) {i : Nat} (hi : i + 5 ≤ L) (hL : L ≤ 2560) (hend : ∀ (B2 : HP) (K : IM) (l6 l7 l8 : Option Value), INV (N + 1) L B2 K → G 2835 [some (.ref (BIG + 20)), some (.ref 0), some (.ref 178), some (.ref 184), some (.ref 185), some (.int (i3 (i : Int))), l6, l7, l8] [] (wI B2 K)) (l6 l7 l8 : Option Value) : G 2646 [some (.ref (BIG + 20)), some (.ref 0), some (.ref 178), some (.ref 184), some (.ref 185), some (.int (i3 (i : Int))), l6, l7, l8] [] (wI B I) := by
  obtain ⟨R, c, h, sv, SR, eo, why, det, cau, o, l, hb, hKI, sC0, sM0, hWI⟩ := hI
  have hb0 := hb
  obtain ⟨hX, hm, hk4, hd4, h20, hn1, hw1, hv0⟩ := hb0
  have h0 := hX.1
  have h178 := hm.1
  have hW := hWI.1
  have w0 := hW.1
  have w1 := hW.2.1
  have hq : 20000 * (N : Int) ≤ 2000000000 := by omega
  have hC := sC0.1
  have hR := hC.1
  have hrW := hWI.2.2.2.1
  refine q_aload_n hG rfl rfl ?_
  refine q_aload_n hG rfl rfl ?_
  refine q_callS0 hG rfl rfl rfl (s_L_rejectionDetail h0 (fun P y z3 => s_X_rejectionDetail hX hC.2.2.2.2.2.1 hC.2.2.2.2.2.2.1 hrW.2 (fun a1 => z3 _ _ ?_) (fun a1 => y _ _ _ hk4 ?_)))
  · have u : upB B (junk B 6) := upB.junk B
    have f : frX I I := frX.refl I
    have sC := sC0
    have sM := sM0
    have hm9 := hm.cg u.cg
    have h178 := (u.1 178).trans h178
    have h20 := (u.1 (BIG + 20)).trans h20
    have hk9 := (u.1 184).trans hk4
    have hd9 := (u.1 185).trans hd4
    refine q_istore hG rfl rfl ?_
    refine q_aload_n hG rfl rfl ?_
    refine q_callV6 hG rfl rfl rfl h178 (s_R_rejectionDetail hm9 sM.1.2.2.2.2.2.1 sM.1.2.2.2.2.2.2.1 hrW.2 (fun b1 => ?_) (fun b1 => ?_))
    · have ht9 : st I 178 0 1 178 0 = 1 := st_same _ _ _ _
      have sM2 := sM.t 1
      have g : frM I (st I 178 0 1) := ((sth.refl I 178).t 1).fM
      refine q_istore hG rfl rfl ?_
      refine q_aload_n hG rfl rfl ?_
      refine q_callV6 hG rfl rfl rfl h178 (s_R_thrown hm9 ht9 ?_)
      refine q_iload hG rfl rfl ?_
      refine q_icmp_eq hG rfl ⟨by omega, by omega⟩ ⟨by omega, by omega⟩ (fun _ => ?_) (fun q => absurd (by decide) q)
      refine q_iload hG rfl rfl ?_
      refine q_if_ne hG rfl ⟨by omega, by omega⟩ (fun _ => ?_) (fun q => absurd (by decide) q)
      refine q_goto hG rfl ?_
      exact hend _ _ _ _ _ (INV.of hb hKI u sC sM2 f g (hWI.up))
    · exfalso
      first | contradiction | omega
  · have u : upB B (sJ B 184 0 (i3 (det)).toInt64) := (upB.refl B).J (i3 (det)).toInt64
    have hj9 : hJ (sJ B 184 0 (i3 (det)).toInt64) 184 0 = (i3 (det)).toInt64 := sJ_at B _
    have f : frX I I := frX.refl I
    have sC := sC0
    have sM := sM0
    have hm9 := hm.cg u.cg
    have h178 := (u.1 178).trans h178
    have h20 := (u.1 (BIG + 20)).trans h20
    have hk9 := (u.1 184).trans hk4
    have hd9 := (u.1 185).trans hd4
    refine q_istore hG rfl rfl ?_
    refine q_aload_n hG rfl rfl ?_
    refine q_callV6 hG rfl rfl rfl h178 (s_R_rejectionDetail hm9 sM.1.2.2.2.2.2.1 sM.1.2.2.2.2.2.2.1 hrW.2 (fun b1 => ?_) (fun b1 => ?_))
    · exfalso
      first | contradiction | omega
    · have ht9 : st I 178 0 0 178 0 = 0 := st_same _ _ _ _
      have sM2 := sM.t 0
      have g : frM I (st I 178 0 0) := ((sth.refl I 178).t 0).fM
      refine q_istore hG rfl rfl ?_
      refine q_aload_n hG rfl rfl ?_
      refine q_callV6 hG rfl rfl rfl h178 (s_R_thrown hm9 ht9 ?_)
      refine q_iload hG rfl rfl ?_
      refine q_icmp_eq hG rfl ⟨by omega, by omega⟩ ⟨by omega, by omega⟩ (fun _ => ?_) (fun q => absurd (by decide) q)
      refine q_iload hG rfl rfl ?_
      refine q_if_ne hG rfl ⟨by omega, by omega⟩ (fun q => absurd q (by decide)) (fun _ => ?_)
      refine q_aload_n hG rfl rfl ?_
      refine q_iconst (v := 0) hG rfl rfl ?_
      refine q_laldX hG rfl hk9 hj9 ?_
      refine q_iload hG rfl rfl ?_
      refine q_i2l hG rfl ?_
      refine q_lcmp_same hG rfl ?_
      refine q_if_eq hG rfl ⟨by omega, by omega⟩ (fun _ => ?_) (fun q => absurd (by decide) q)
      refine q_goto hG rfl ?_
      exact hend _ _ _ _ _ (INV.of hb hKI u sC sM2 f g (hWI.up))
set_option maxRecDepth 100000 in
theorem lc_50 {d : Nat} {Post : Out → HP → Prop} {G : Nat → LV → List Value → HP → Prop} (hG : Cl (Sp (d + 21)) md_L_law Post G) {N L : Nat} {B : HP} {I : IM} (hI : INV N L B I) (hN : N ≤ 512) {i : Nat} (hi : i + 5 ≤ L) (hL : L ≤ 2560) (hend : ∀ (B2 : HP) (K : IM) (l6 l7 l8 : Option Value), INV (N + 1) L B2 K → G 2835 [some (.ref (BIG + 20)), some (.ref 0), some (.ref 178), some (.ref 184), some (.ref 185), some (.int (i3 (i : Int))), l6, l7, l8] [] (wI B2 K)) (l6 l7 l8 : Option Value) : G 2690 [some (.ref (BIG + 20)), some (.ref 0), some (.ref 178), some (.ref 184), some (.ref 185), some (.int (i3 (i : Int))), l6, l7, l8] [] (wI B I) := by
  obtain ⟨R, c, h, sv, SR, eo, why, det, cau, o, l, hb, hKI, sC0, sM0, hWI⟩ := hI
  have hb0 := hb
  obtain ⟨hX, hm, hk4, hd4, h20, hn1, hw1, hv0⟩ := hb0
  have h0 := hX.1
  have h178 := hm.1
  have hW := hWI.1
  have w0 := hW.1
  have w1 := hW.2.1
  have hq : 20000 * (N : Int) ≤ 2000000000 := by omega
  have hC := sC0.1
  have hR := hC.1
  have hrW := hWI.2.2.2.1
  refine q_aload_n hG rfl rfl ?_
  refine q_aload_n hG rfl rfl ?_
  refine q_callS0 hG rfl rfl rfl (s_L_causeReason h0 (fun P y z3 => s_X_causeReason hX hC.2.2.2.2.2.1 hC.2.2.2.2.2.2.2.1 hrW.2 (fun a1 => z3 _ _ ?_) (fun a1 => y _ _ _ hk4 ?_)))
  · have u : upB B (junk B 6) := upB.junk B
    have f : frX I I := frX.refl I
    have sC := sC0
    have sM := sM0
    have hm9 := hm.cg u.cg
    have h178 := (u.1 178).trans h178
    have h20 := (u.1 (BIG + 20)).trans h20
    have hk9 := (u.1 184).trans hk4
    have hd9 := (u.1 185).trans hd4
    refine q_istore hG rfl rfl ?_
    refine q_aload_n hG rfl rfl ?_
    refine q_callV6 hG rfl rfl rfl h178 (s_R_causeReason hm9 sM.1.2.2.2.2.2.1 sM.1.2.2.2.2.2.2.2 hrW.2 (fun b1 => ?_) (fun b1 => ?_))
    · have ht9 : st I 178 0 1 178 0 = 1 := st_same _ _ _ _
      have sM2 := sM.t 1
      have g : frM I (st I 178 0 1) := ((sth.refl I 178).t 1).fM
      refine q_istore hG rfl rfl ?_
      refine q_aload_n hG rfl rfl ?_
      refine q_callV6 hG rfl rfl rfl h178 (s_R_thrown hm9 ht9 ?_)
      refine q_iload hG rfl rfl ?_
      refine q_icmp_eq hG rfl ⟨by omega, by omega⟩ ⟨by omega, by omega⟩ (fun _ => ?_) (fun q => absurd (by decide) q)
      refine q_iload hG rfl rfl ?_
      refine q_if_ne hG rfl ⟨by omega, by omega⟩ (fun _ => ?_) (fun q => absurd (by decide) q)
      refine q_goto hG rfl ?_
      exact hend _ _ _ _ _ (INV.of hb hKI u sC sM2 f g (hWI.up))
    · exfalso
      first | contradiction | omega
  · have u : upB B (sJ B 184 0 (i3 (cau)).toInt64) := (upB.refl B).J (i3 (cau)).toInt64
    have hj9 : hJ (sJ B 184 0 (i3 (cau)).toInt64) 184 0 = (i3 (cau)).toInt64 := sJ_at B _
    have f : frX I I := frX.refl I
    have sC := sC0
    have sM := sM0
    have hm9 := hm.cg u.cg
    have h178 := (u.1 178).trans h178
    have h20 := (u.1 (BIG + 20)).trans h20
    have hk9 := (u.1 184).trans hk4
    have hd9 := (u.1 185).trans hd4
    refine q_istore hG rfl rfl ?_
    refine q_aload_n hG rfl rfl ?_
    refine q_callV6 hG rfl rfl rfl h178 (s_R_causeReason hm9 sM.1.2.2.2.2.2.1 sM.1.2.2.2.2.2.2.2 hrW.2 (fun b1 => ?_) (fun b1 => ?_))
    · exfalso
      first | contradiction | omega
    · have ht9 : st I 178 0 0 178 0 = 0 := st_same _ _ _ _
      have sM2 := sM.t 0
      have g : frM I (st I 178 0 0) := ((sth.refl I 178).t 0).fM
      refine q_istore hG rfl rfl ?_
      refine q_aload_n hG rfl rfl ?_
      refine q_callV6 hG rfl rfl rfl h178 (s_R_thrown hm9 ht9 ?_)
      refine q_iload hG rfl rfl ?_
      refine q_icmp_eq hG rfl ⟨by omega, by omega⟩ ⟨by omega, by omega⟩ (fun _ => ?_) (fun q => absurd (by decide) q)
      refine q_iload hG rfl rfl ?_
      refine q_if_ne hG rfl ⟨by omega, by omega⟩ (fun q => absurd q (by decide)) (fun _ => ?_)
      refine q_aload_n hG rfl rfl ?_
      refine q_iconst (v := 0) hG rfl rfl ?_
      refine q_laldX hG rfl hk9 hj9 ?_
      refine q_iload hG rfl rfl ?_
      refine q_i2l hG rfl ?_
      refine q_lcmp_same hG rfl ?_
      refine q_if_eq hG rfl ⟨by omega, by omega⟩ (fun _ => ?_) (fun q => absurd (by decide) q)
      refine q_goto hG rfl ?_
      exact hend _ _ _ _ _ (INV.of hb hKI u sC sM2 f g (hWI.up))
