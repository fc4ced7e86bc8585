/-! the calls that change: both sides answer alike -/
theorem sJ_at (B : HP) (v : Int64) : hJ (sJ B 184 0 v) 184 0 = v := by
  show up2 (hJ B) 184 0 v 184 0 = v
  exact if_pos ⟨rfl, rfl⟩
theorem sU_at (B : HP) (v : UInt64) : hU (sU B 185 0 v) 185 0 = v := by
  show up2 (hU B) 185 0 v 185 0 = v
  exact if_pos ⟨rfl, rfl⟩
section
variable {S : SpecT} {M : MDT} {Post : Out → HP → Prop} {G : Nat → LV → List Value → HP → Prop} {pc nx : Nat} {cst : Int32} {x : List Nat} {L : LV} {r : List Value}
theorem q_icmp_same (hG : Cl S M Post G) {A : HP} {j : _} {t : Nat} {v : Int32} (hl : lk pc M.1 = some (.if_icmp .eq j, nx, cst, t :: x)) (h : G t L r A) : G pc L (.int v :: .int v :: r) A := hG _ _ _ _ (by
  unfold stepP
  rw [hl]
  exact ⟨fun _ => h, fun q => absurd rfl q⟩)
theorem q_lcmp_same (hG : Cl S M Post G) {A : HP} {v : Int64} (hl : lk pc M.1 = some (.lcmp, nx, cst, x)) (h : G nx L (.int (i3 0) :: r) A) : G pc L (.long v :: .long v :: r) A := q_lcmpv hG hl (by
  rw [lgc_0.mpr rfl]
  exact h)
theorem q_laldX (hG : Cl S M Post G) {B : HP} {I : IM} {v : Int64} (hl : lk pc M.1 = some (.laload, nx, cst, x)) (hk : hK B 184 = (2, 1)) (hv : hJ B 184 0 = v) (h : G nx L (.long v :: r) (wI B I)) : G pc L (.int (i3 0) :: .ref 184 :: r) (wI B I) := q_lald (A := wI B I) hG hl hk ⟨by decide, by decide, by decide⟩ (by
  show G nx L (.long (hJ B 184 0) :: r) _
  rw [hv]
  exact h)
theorem q_daldX (hG : Cl S M Post G) {B : HP} {I : IM} {v : UInt64} (hl : lk pc M.1 = some (.daload, nx, cst, x)) (hk : hK B 185 = (5, 1)) (hv : hU B 185 0 = v) (h : G nx L (.double v :: r) (wI B I)) : G pc L (.int (i3 0) :: .ref 185 :: r) (wI B I) := q_dald (A := wI B I) hG hl hk ⟨by decide, by decide, by decide⟩ (by
  show G nx L (.double (hU B 185 0) :: r) _
  rw [hv]
  exact h)
end
theorem wfR_lo {q : Int} {R : RW} (hW : WfR q R) {x : Int} (hx : 0 ≤ x ∧ x < R 0) : (0 ≤ R (5 + 4 * x.toNat) ∧ R (5 + 4 * x.toNat) ≤ R (5 + 4 * x.toNat + 2) ∧ R (5 + 4 * x.toNat + 2) ≤ R (5 + 4 * x.toNat + 3) ∧ R (5 + 4 * x.toNat + 3) ≤ R (5 + 4 * x.toNat + 1) ∧ R (5 + 4 * x.toNat + 1) ≤ 40) := by
  have w0 := hW.1
  exact (hW.2.2.2.2.2.1 x.toNat (by omega)).1
set_option maxRecDepth 100000 in
theorem lc_0 {d : Nat} {Post : Out → HP → Prop} {G : Nat → LV → List Value → HP → Prop} (hG : Cl (Sp (d + 21)) md_L_law Post G) {N L : Nat} {B : HP} {I : IM} (hI : INV N L B I) (hN : N ≤ 512) {i : Nat} (hi : i + 5 ≤ L) (hL : L ≤ 2560) (hend : ∀ (B2 : HP) (K : IM) (l6 l7 l8 : Option Value), INV (N + 1) L B2 K → G 2835 [some (.ref (BIG + 20)), some (.ref 0), some (.ref 178), some (.ref 184), some (.ref 185), some (.int (i3 (i : Int))), l6, l7, l8] [] (wI B2 K)) (l6 l7 l8 : Option Value) : G 276 [some (.ref (BIG + 20)), some (.ref 0), some (.ref 178), some (.ref 184), some (.ref 185), some (.int (i3 (i : Int))), l6, l7, l8] [] (wI B I) := by
  obtain ⟨R, c, h, sv, SR, eo, why, det, cau, o, l, hb, hKI, sC0, sM0, hWI⟩ := hI
  have hb0 := hb
  obtain ⟨hX, hm, hk4, hd4, h20, hn1, hw1, hv0⟩ := hb0
  have h0 := hX.1
  have h178 := hm.1
  have hW := hWI.1
  have w0 := hW.1
  have w1 := hW.2.1
  have hq : 20000 * (N : Int) ≤ 2000000000 := by omega
  have hC := sC0.1
  have hR := hC.1
  have hrW := hWI.2.2.2.1
  obtain ⟨x1, e1⟩ : ∃ v, I (BIG + 20) (i + 1) = v := ⟨_, rfl⟩
  have r1 : r32 x1 := e1 ▸ hKI.2.2.2 (i + 1)
  have ra1 := r1.1
  have rb1 := r1.2
  obtain ⟨x2, e2⟩ : ∃ v, I (BIG + 20) (i + 2) = v := ⟨_, rfl⟩
  have r2 : r32 x2 := e2 ▸ hKI.2.2.2 (i + 2)
  have ra2 := r2.1
  have rb2 := r2.2
  refine q_aload_n hG rfl rfl ?_
  refine q_aload_n hG rfl rfl ?_
  refine q_iload hG rfl rfl ?_
  refine q_iconst (v := 1) hG rfl rfl ?_
  refine q_iadd hG rfl ?_
  refine q_iald9v (v := x1) hG rfl h20 ⟨by omega, by omega, by omega⟩ (by rw [show ((i : Int) + 1).toNat = i + 1 by omega]; exact e1) ?_
  refine q_aload_n hG rfl rfl ?_
  refine q_iload hG rfl rfl ?_
  refine q_iconst (v := 2) hG rfl rfl ?_
  refine q_iadd hG rfl ?_
  refine q_iald9v (v := x2) hG rfl h20 ⟨by omega, by omega, by omega⟩ (by rw [show ((i : Int) + 2).toNat = i + 2 by omega]; exact e2) ?_
  refine q_aload_n hG rfl rfl ?_
  refine q_callS0 hG rfl rfl rfl (s_L_addDoor h0 (fun P y z0 z1 => s_P_addDoor hX hC hW hq r1 r2 (fun a1 => z0 _ _ ?_) (fun a1 a2 J c1 c2 => y _ _ _ hk4 ?_) (fun a1 a2 J c1 c2 => z1 _ _ ?_)))
  · have u : upB B (junk B 6) := upB.junk B
    have f : frX I I := frX.refl I
    have sC := sC0
    have sM := sM0
    have hm9 := hm.cg u.cg
    have h178 := (u.1 178).trans h178
    have h20 := (u.1 (BIG + 20)).trans h20
    have hk9 := (u.1 184).trans hk4
    have hd9 := (u.1 185).trans hd4
    refine q_istore hG rfl rfl ?_
    refine q_aload_n hG rfl rfl ?_
    refine q_aload_n hG rfl rfl ?_
    refine q_iload hG rfl rfl ?_
    refine q_iconst (v := 1) hG rfl rfl ?_
    refine q_iadd hG rfl ?_
    refine q_iald9v (v := x1) hG rfl h20 ⟨by omega, by omega, by omega⟩ (by rw [show ((i : Int) + 1).toNat = i + 1 by omega]; exact e1) ?_
    refine q_aload_n hG rfl rfl ?_
    refine q_iload hG rfl rfl ?_
    refine q_iconst (v := 2) hG rfl rfl ?_
    refine q_iadd hG rfl ?_
    refine q_iald9v (v := x2) hG rfl h20 ⟨by omega, by omega, by omega⟩ (by rw [show ((i : Int) + 2).toNat = i + 2 by omega]; exact e2) ?_
    refine q_callV6 hG rfl rfl rfl h178 (s_R_addDoor hm9 sM.1 hW hq r1 r2 (fun b1 K k1 k2 k3 => ?_) (fun b1 b2 K k1 k2 k3 => ?_) (fun b1 b2 K k1 k2 k3 => ?_))
    · have ht9 := k2
      have sM2 := sM.chg k1 k3
      have g := k3.fM
      refine q_istore hG rfl rfl ?_
      refine q_aload_n hG rfl rfl ?_
      refine q_callV6 hG rfl rfl rfl h178 (s_R_thrown hm9 ht9 ?_)
      refine q_iload hG rfl rfl ?_
      refine q_icmp_eq hG rfl ⟨by omega, by omega⟩ ⟨by omega, by omega⟩ (fun _ => ?_) (fun q => absurd (by decide) q)
      refine q_iload hG rfl rfl ?_
      refine q_if_ne hG rfl ⟨by omega, by omega⟩ (fun _ => ?_) (fun q => absurd (by decide) q)
      refine q_goto hG rfl ?_
      exact hend _ _ _ _ _ (INV.of hb hKI u sC sM2 f g (hWI.up))
    · exfalso
      first | contradiction | omega
    · exfalso
      first | contradiction | omega
  · have u : upB B (sJ B 184 0 (i3 (R 0)).toInt64) := (upB.refl B).J (i3 (R 0)).toInt64
    have hj9 : hJ (sJ B 184 0 (i3 (R 0)).toInt64) 184 0 = (i3 (R 0)).toInt64 := sJ_at B _
    have f : frX I J := fr158 c2
    have sC := sC0.chg c1 c2
    have sM := sM0.cls f
    have hm9 := hm.cg u.cg
    have h178 := (u.1 178).trans h178
    have h20 := (u.1 (BIG + 20)).trans h20
    have hk9 := (u.1 184).trans hk4
    have hd9 := (u.1 185).trans hd4
    have e1 : J (BIG + 20) (i + 1) = x1 := by rw [f (BIG + 20) (Or.inr (by omega))]; exact e1
    have e2 : J (BIG + 20) (i + 2) = x2 := by rw [f (BIG + 20) (Or.inr (by omega))]; exact e2
    refine q_istore hG rfl rfl ?_
    refine q_aload_n hG rfl rfl ?_
    refine q_aload_n hG rfl rfl ?_
    refine q_iload hG rfl rfl ?_
    refine q_iconst (v := 1) hG rfl rfl ?_
    refine q_iadd hG rfl ?_
    refine q_iald9v (v := x1) hG rfl h20 ⟨by omega, by omega, by omega⟩ (by rw [show ((i : Int) + 1).toNat = i + 1 by omega]; exact e1) ?_
    refine q_aload_n hG rfl rfl ?_
    refine q_iload hG rfl rfl ?_
    refine q_iconst (v := 2) hG rfl rfl ?_
    refine q_iadd hG rfl ?_
    refine q_iald9v (v := x2) hG rfl h20 ⟨by omega, by omega, by omega⟩ (by rw [show ((i : Int) + 2).toNat = i + 2 by omega]; exact e2) ?_
    refine q_callV6 hG rfl rfl rfl h178 (s_R_addDoor hm9 sM.1 hW hq r1 r2 (fun b1 K k1 k2 k3 => ?_) (fun b1 b2 K k1 k2 k3 => ?_) (fun b1 b2 K k1 k2 k3 => ?_))
    · exfalso
      first | contradiction | omega
    · exfalso
      first | contradiction | omega
    · have ht9 := k2
      have sM2 := sM.chg k1 k3
      have g := k3.fM
      refine q_istore hG rfl rfl ?_
      refine q_aload_n hG rfl rfl ?_
      refine q_callV6 hG rfl rfl rfl h178 (s_R_thrown hm9 ht9 ?_)
      refine q_iload hG rfl rfl ?_
      refine q_icmp_eq hG rfl ⟨by omega, by omega⟩ ⟨by omega, by omega⟩ (fun _ => ?_) (fun q => absurd (by decide) q)
      refine q_iload hG rfl rfl ?_
      refine q_if_ne hG rfl ⟨by omega, by omega⟩ (fun q => absurd q (by decide)) (fun _ => ?_)
      refine q_aload_n hG rfl rfl ?_
      refine q_iconst (v := 0) hG rfl rfl ?_
      refine q_laldX hG rfl hk9 hj9 ?_
      refine q_iload hG rfl rfl ?_
      refine q_i2l hG rfl ?_
      refine q_lcmp_same hG rfl ?_
      refine q_if_eq hG rfl ⟨by omega, by omega⟩ (fun _ => ?_) (fun q => absurd (by decide) q)
      refine q_goto hG rfl ?_
      exact hend _ _ _ _ _ (INV.of hb hKI u sC sM2 f g (hWI.chg ((outC_W (kd := 0) (c := 0) hW (v := 1) (by omega) (oc1_o a1 a2)).up (by omega))))
  · have u : upB B (junk B 6) := upB.junk B
    have f : frX I J := fr158 c2
    have sC := sC0.chg c1 c2
    have sM := sM0.cls f
    have hm9 := hm.cg u.cg
    have h178 := (u.1 178).trans h178
    have h20 := (u.1 (BIG + 20)).trans h20
    have hk9 := (u.1 184).trans hk4
    have hd9 := (u.1 185).trans hd4
    have e1 : J (BIG + 20) (i + 1) = x1 := by rw [f (BIG + 20) (Or.inr (by omega))]; exact e1
    have e2 : J (BIG + 20) (i + 2) = x2 := by rw [f (BIG + 20) (Or.inr (by omega))]; exact e2
    refine q_istore hG rfl rfl ?_
    refine q_aload_n hG rfl rfl ?_
    refine q_aload_n hG rfl rfl ?_
    refine q_iload hG rfl rfl ?_
    refine q_iconst (v := 1) hG rfl rfl ?_
    refine q_iadd hG rfl ?_
    refine q_iald9v (v := x1) hG rfl h20 ⟨by omega, by omega, by omega⟩ (by rw [show ((i : Int) + 1).toNat = i + 1 by omega]; exact e1) ?_
    refine q_aload_n hG rfl rfl ?_
    refine q_iload hG rfl rfl ?_
    refine q_iconst (v := 2) hG rfl rfl ?_
    refine q_iadd hG rfl ?_
    refine q_iald9v (v := x2) hG rfl h20 ⟨by omega, by omega, by omega⟩ (by rw [show ((i : Int) + 2).toNat = i + 2 by omega]; exact e2) ?_
    refine q_callV6 hG rfl rfl rfl h178 (s_R_addDoor hm9 sM.1 hW hq r1 r2 (fun b1 K k1 k2 k3 => ?_) (fun b1 b2 K k1 k2 k3 => ?_) (fun b1 b2 K k1 k2 k3 => ?_))
    · exfalso
      first | contradiction | omega
    · have ht9 := k2
      have sM2 := sM.chg k1 k3
      have g := k3.fM
      refine q_istore hG rfl rfl ?_
      refine q_aload_n hG rfl rfl ?_
      refine q_callV6 hG rfl rfl rfl h178 (s_R_thrown hm9 ht9 ?_)
      refine q_iload hG rfl rfl ?_
      refine q_icmp_eq hG rfl ⟨by omega, by omega⟩ ⟨by omega, by omega⟩ (fun _ => ?_) (fun q => absurd (by decide) q)
      refine q_iload hG rfl rfl ?_
      refine q_if_ne hG rfl ⟨by omega, by omega⟩ (fun _ => ?_) (fun q => absurd (by decide) q)
      refine q_goto hG rfl ?_
      exact hend _ _ _ _ _ (INV.of hb hKI u sC sM2 f g (hWI.rej ⟨by decide, by decide⟩))
    · exfalso
      first | contradiction | omega
theorem WI.undo {N : Nat} {R : RW} {c : Int} {h : Nat → RW} {sv : Int} {SR : RW} {eo why det cau : Int} {o l : List Int} (q : WI N R c h sv SR eo why det cau o l) (hc : 0 < c) : WI (N + 1) (h 0) (c - 1) (fun j => h (j + 1)) sv SR eo why det cau o l := by
  obtain ⟨q1, q2, q3, q4⟩ := q.up
  exact ⟨q2 0 (by omega), fun j hj => q2 (j + 1) (by omega), q3, q4⟩
theorem WI.save {N : Nat} {R : RW} {c : Int} {h : Nat → RW} {sv : Int} {SR : RW} {eo why det cau : Int} {o l : List Int} (q : WI N R c h sv SR eo why det cau o l) : WI (N + 1) R c h 1 R eo why det cau o l := by
  obtain ⟨q1, q2, q3, q4⟩ := q.up
  exact ⟨q1, q2, fun _ => q1, q4⟩
theorem WI.rest {N : Nat} {R : RW} {c : Int} {h : Nat → RW} {sv : Int} {SR : RW} {eo why det cau : Int} {o l : List Int} (q : WI N R c h sv SR eo why det cau o l) (hs : sv = 1) : WI (N + 1) SR 0 h sv SR eo why det cau o l := by
  obtain ⟨q1, q2, q3, q4⟩ := q.up
  exact ⟨q3 hs, fun j hj => absurd hj (by omega), q3, q4⟩
set_option maxRecDepth 100000 in
theorem lc_1 {d : Nat} {Post : Out → HP → Prop} {G : Nat → LV → List Value → HP → Prop} (hG : Cl (Sp (d + 21)) md_L_law Post G) {N L : Nat} {B : HP} {I : IM} (hI : INV N L B I) (hN : N ≤ 512) {i : Nat} (hi : i + 5 ≤ L) (hL : L ≤ 2560) (hend : ∀ (B2 : HP) (K : IM) (l6 l7 l8 : Option Value), INV (N + 1) L B2 K → G 2835 [some (.ref (BIG + 20)), some (.ref 0), some (.ref 178), some (.ref 184), some (.ref 185), some (.int (i3 (i : Int))), l6, l7, l8] [] (wI B2 K)) (l6 l7 l8 : Option Value) : G 344 [some (.ref (BIG + 20)), some (.ref 0), some (.ref 178), some (.ref 184), some (.ref 185), some (.int (i3 (i : Int))), l6, l7, l8] [] (wI B I) := by
  obtain ⟨R, c, h, sv, SR, eo, why, det, cau, o, l, hb, hKI, sC0, sM0, hWI⟩ := hI
  have hb0 := hb
  obtain ⟨hX, hm, hk4, hd4, h20, hn1, hw1, hv0⟩ := hb0
  have h0 := hX.1
  have h178 := hm.1
  have hW := hWI.1
  have w0 := hW.1
  have w1 := hW.2.1
  have hq : 20000 * (N : Int) ≤ 2000000000 := by omega
  have hC := sC0.1
  have hR := hC.1
  have hrW := hWI.2.2.2.1
  obtain ⟨x1, e1⟩ : ∃ v, I (BIG + 20) (i + 1) = v := ⟨_, rfl⟩
  have r1 : r32 x1 := e1 ▸ hKI.2.2.2 (i + 1)
  have ra1 := r1.1
  have rb1 := r1.2
  obtain ⟨x2, e2⟩ : ∃ v, I (BIG + 20) (i + 2) = v := ⟨_, rfl⟩
  have r2 : r32 x2 := e2 ▸ hKI.2.2.2 (i + 2)
  have ra2 := r2.1
  have rb2 := r2.2
  obtain ⟨x3, e3⟩ : ∃ v, I (BIG + 20) (i + 3) = v := ⟨_, rfl⟩
  have r3 : r32 x3 := e3 ▸ hKI.2.2.2 (i + 3)
  have ra3 := r3.1
  have rb3 := r3.2
  refine q_aload_n hG rfl rfl ?_
  refine q_aload_n hG rfl rfl ?_
  refine q_iload hG rfl rfl ?_
  refine q_iconst (v := 1) hG rfl rfl ?_
  refine q_iadd hG rfl ?_
  refine q_iald9v (v := x1) hG rfl h20 ⟨by omega, by omega, by omega⟩ (by rw [show ((i : Int) + 1).toNat = i + 1 by omega]; exact e1) ?_
  refine q_aload_n hG rfl rfl ?_
  refine q_iload hG rfl rfl ?_
  refine q_iconst (v := 2) hG rfl rfl ?_
  refine q_iadd hG rfl ?_
  refine q_iald9v (v := x2) hG rfl h20 ⟨by omega, by omega, by omega⟩ (by rw [show ((i : Int) + 2).toNat = i + 2 by omega]; exact e2) ?_
  refine q_aload_n hG rfl rfl ?_
  refine q_iload hG rfl rfl ?_
  refine q_iconst (v := 3) hG rfl rfl ?_
  refine q_iadd hG rfl ?_
  refine q_iald9v (v := x3) hG rfl h20 ⟨by omega, by omega, by omega⟩ (by rw [show ((i : Int) + 3).toNat = i + 3 by omega]; exact e3) ?_
  refine q_aload_n hG rfl rfl ?_
  refine q_callS0 hG rfl rfl rfl (s_L_setFrame h0 (fun P y z2 z0 => s_P_setFrame hX hC hW hq r1 r2 r3 (fun a1 => z2 _ _ ?_) (fun a1 a2 => z0 _ _ ?_) (fun a1 a2 J c1 c2 => y _ _ _ hk4 ?_)))
  · have u : upB B (junk B 6) := upB.junk B
    have f : frX I I := frX.refl I
    have sC := sC0
    have sM := sM0
    have hm9 := hm.cg u.cg
    have h178 := (u.1 178).trans h178
    have h20 := (u.1 (BIG + 20)).trans h20
    have hk9 := (u.1 184).trans hk4
    have hd9 := (u.1 185).trans hd4
    refine q_istore hG rfl rfl ?_
    refine q_aload_n hG rfl rfl ?_
    refine q_aload_n hG rfl rfl ?_
    refine q_iload hG rfl rfl ?_
    refine q_iconst (v := 1) hG rfl rfl ?_
    refine q_iadd hG rfl ?_
    refine q_iald9v (v := x1) hG rfl h20 ⟨by omega, by omega, by omega⟩ (by rw [show ((i : Int) + 1).toNat = i + 1 by omega]; exact e1) ?_
    refine q_aload_n hG rfl rfl ?_
    refine q_iload hG rfl rfl ?_
    refine q_iconst (v := 2) hG rfl rfl ?_
    refine q_iadd hG rfl ?_
    refine q_iald9v (v := x2) hG rfl h20 ⟨by omega, by omega, by omega⟩ (by rw [show ((i : Int) + 2).toNat = i + 2 by omega]; exact e2) ?_
    refine q_aload_n hG rfl rfl ?_
    refine q_iload hG rfl rfl ?_
    refine q_iconst (v := 3) hG rfl rfl ?_
    refine q_iadd hG rfl ?_
    refine q_iald9v (v := x3) hG rfl h20 ⟨by omega, by omega, by omega⟩ (by rw [show ((i : Int) + 3).toNat = i + 3 by omega]; exact e3) ?_
    refine q_callV6 hG rfl rfl rfl h178 (s_R_setFrame hm9 sM.1 hW hq r1 r2 r3 (fun b1 K k1 k2 k3 => ?_) (fun b1 b2 K k1 k2 k3 => ?_) (fun b1 b2 K k1 k2 k3 => ?_))
    · have ht9 := k2
      have sM2 := sM.chg k1 k3
      have g := k3.fM
      refine q_istore hG rfl rfl ?_
      refine q_aload_n hG rfl rfl ?_
      refine q_callV6 hG rfl rfl rfl h178 (s_R_thrown hm9 ht9 ?_)
      refine q_iload hG rfl rfl ?_
      refine q_icmp_eq hG rfl ⟨by omega, by omega⟩ ⟨by omega, by omega⟩ (fun _ => ?_) (fun q => absurd (by decide) q)
      refine q_iload hG rfl rfl ?_
      refine q_if_ne hG rfl ⟨by omega, by omega⟩ (fun _ => ?_) (fun q => absurd (by decide) q)
      refine q_goto hG rfl ?_
      exact hend _ _ _ _ _ (INV.of hb hKI u sC sM2 f g (hWI.up))
    · exfalso
      first | contradiction | omega
    · exfalso
      first | contradiction | omega
  · have u : upB B (junk B 6) := upB.junk B
    have f : frX I I := frX.refl I
    have sC := sC0
    have sM := sM0
    have hm9 := hm.cg u.cg
    have h178 := (u.1 178).trans h178
    have h20 := (u.1 (BIG + 20)).trans h20
    have hk9 := (u.1 184).trans hk4
    have hd9 := (u.1 185).trans hd4
    refine q_istore hG rfl rfl ?_
    refine q_aload_n hG rfl rfl ?_
    refine q_aload_n hG rfl rfl ?_
    refine q_iload hG rfl rfl ?_
    refine q_iconst (v := 1) hG rfl rfl ?_
    refine q_iadd hG rfl ?_
    refine q_iald9v (v := x1) hG rfl h20 ⟨by omega, by omega, by omega⟩ (by rw [show ((i : Int) + 1).toNat = i + 1 by omega]; exact e1) ?_
    refine q_aload_n hG rfl rfl ?_
    refine q_iload hG rfl rfl ?_
    refine q_iconst (v := 2) hG rfl rfl ?_
    refine q_iadd hG rfl ?_
    refine q_iald9v (v := x2) hG rfl h20 ⟨by omega, by omega, by omega⟩ (by rw [show ((i : Int) + 2).toNat = i + 2 by omega]; exact e2) ?_
    refine q_aload_n hG rfl rfl ?_
    refine q_iload hG rfl rfl ?_
    refine q_iconst (v := 3) hG rfl rfl ?_
    refine q_iadd hG rfl ?_
    refine q_iald9v (v := x3) hG rfl h20 ⟨by omega, by omega, by omega⟩ (by rw [show ((i : Int) + 3).toNat = i + 3 by omega]; exact e3) ?_
    refine q_callV6 hG rfl rfl rfl h178 (s_R_setFrame hm9 sM.1 hW hq r1 r2 r3 (fun b1 K k1 k2 k3 => ?_) (fun b1 b2 K k1 k2 k3 => ?_) (fun b1 b2 K k1 k2 k3 => ?_))
    · exfalso
      first | contradiction | omega
    · have ht9 := k2
      have sM2 := sM.chg k1 k3
      have g := k3.fM
      refine q_istore hG rfl rfl ?_
      refine q_aload_n hG rfl rfl ?_
      refine q_callV6 hG rfl rfl rfl h178 (s_R_thrown hm9 ht9 ?_)
      refine q_iload hG rfl rfl ?_
      refine q_icmp_eq hG rfl ⟨by omega, by omega⟩ ⟨by omega, by omega⟩ (fun _ => ?_) (fun q => absurd (by decide) q)
      refine q_iload hG rfl rfl ?_
      refine q_if_ne hG rfl ⟨by omega, by omega⟩ (fun _ => ?_) (fun q => absurd (by decide) q)
      refine q_goto hG rfl ?_
      exact hend _ _ _ _ _ (INV.of hb hKI u sC sM2 f g (hWI.up))
    · exfalso
      first | contradiction | omega
  · have u : upB B (sJ B 184 0 (i3 (unl R (frmR R x1.toNat x2 x3))).toInt64) := (upB.refl B).J (i3 (unl R (frmR R x1.toNat x2 x3))).toInt64
    have hj9 : hJ (sJ B 184 0 (i3 (unl R (frmR R x1.toNat x2 x3))).toInt64) 184 0 = (i3 (unl R (frmR R x1.toNat x2 x3))).toInt64 := sJ_at B _
    have f : frX I J := fr158 c2
    have sC := sC0.chg c1 c2
    have sM := sM0.cls f
    have hm9 := hm.cg u.cg
    have h178 := (u.1 178).trans h178
    have h20 := (u.1 (BIG + 20)).trans h20
    have hk9 := (u.1 184).trans hk4
    have hd9 := (u.1 185).trans hd4
    have e1 : J (BIG + 20) (i + 1) = x1 := by rw [f (BIG + 20) (Or.inr (by omega))]; exact e1
    have e2 : J (BIG + 20) (i + 2) = x2 := by rw [f (BIG + 20) (Or.inr (by omega))]; exact e2
    have e3 : J (BIG + 20) (i + 3) = x3 := by rw [f (BIG + 20) (Or.inr (by omega))]; exact e3
    refine q_istore hG rfl rfl ?_
    refine q_aload_n hG rfl rfl ?_
    refine q_aload_n hG rfl rfl ?_
    refine q_iload hG rfl rfl ?_
    refine q_iconst (v := 1) hG rfl rfl ?_
    refine q_iadd hG rfl ?_
    refine q_iald9v (v := x1) hG rfl h20 ⟨by omega, by omega, by omega⟩ (by rw [show ((i : Int) + 1).toNat = i + 1 by omega]; exact e1) ?_
    refine q_aload_n hG rfl rfl ?_
    refine q_iload hG rfl rfl ?_
    refine q_iconst (v := 2) hG rfl rfl ?_
    refine q_iadd hG rfl ?_
    refine q_iald9v (v := x2) hG rfl h20 ⟨by omega, by omega, by omega⟩ (by rw [show ((i : Int) + 2).toNat = i + 2 by omega]; exact e2) ?_
    refine q_aload_n hG rfl rfl ?_
    refine q_iload hG rfl rfl ?_
    refine q_iconst (v := 3) hG rfl rfl ?_
    refine q_iadd hG rfl ?_
    refine q_iald9v (v := x3) hG rfl h20 ⟨by omega, by omega, by omega⟩ (by rw [show ((i : Int) + 3).toNat = i + 3 by omega]; exact e3) ?_
    refine q_callV6 hG rfl rfl rfl h178 (s_R_setFrame hm9 sM.1 hW hq r1 r2 r3 (fun b1 K k1 k2 k3 => ?_) (fun b1 b2 K k1 k2 k3 => ?_) (fun b1 b2 K k1 k2 k3 => ?_))
    · exfalso
      first | contradiction | omega
    · exfalso
      first | contradiction | omega
    · have ht9 := k2
      have sM2 := sM.chg k1 k3
      have g := k3.fM
      refine q_istore hG rfl rfl ?_
      refine q_aload_n hG rfl rfl ?_
      refine q_callV6 hG rfl rfl rfl h178 (s_R_thrown hm9 ht9 ?_)
      refine q_iload hG rfl rfl ?_
      refine q_icmp_eq hG rfl ⟨by omega, by omega⟩ ⟨by omega, by omega⟩ (fun _ => ?_) (fun q => absurd (by decide) q)
      refine q_iload hG rfl rfl ?_
      refine q_if_ne hG rfl ⟨by omega, by omega⟩ (fun q => absurd q (by decide)) (fun _ => ?_)
      refine q_aload_n hG rfl rfl ?_
      refine q_iconst (v := 0) hG rfl rfl ?_
      refine q_laldX hG rfl hk9 hj9 ?_
      refine q_iload hG rfl rfl ?_
      refine q_i2l hG rfl ?_
      refine q_lcmp_same hG rfl ?_
      refine q_if_eq hG rfl ⟨by omega, by omega⟩ (fun _ => ?_) (fun q => absurd (by decide) q)
      refine q_goto hG rfl ?_
      exact hend _ _ _ _ _ (INV.of hb hKI u sC sM2 f g (hWI.chg ((outC_W (kd := 0) hW (v := 2) (by omega) (oc2_o ⟨a1, a2⟩)).up (by omega))))
set_option maxRecDepth 100000 in
theorem lc_2 {d : Nat} {Post : Out → HP → Prop} {G : Nat → LV → List Value → HP → Prop} (hG : Cl (Sp (d + 21)) md_L_law Post G) {N L : Nat} {B : HP} {I : IM} (hI : INV N L B I) (hN : N ≤ 512) {i : Nat} (hi : i + 5 ≤ L) (hL : L ≤ 2560) (hend : ∀ (B2 : HP) (K : IM) (l6 l7 l8 : Option Value), INV (N + 1) L B2 K → G 2835 [some (.ref (BIG + 20)), some (.ref 0), some (.ref 178), some (.ref 184), some (.ref 185), some (.int (i3 (i : Int))), l6, l7, l8] [] (wI B2 K)) (l6 l7 l8 : Option Value) : G 424 [some (.ref (BIG + 20)), some (.ref 0), some (.ref 178), some (.ref 184), some (.ref 185), some (.int (i3 (i : Int))), l6, l7, l8] [] (wI B I) := by
  obtain ⟨R, c, h, sv, SR, eo, why, det, cau, o, l, hb, hKI, sC0, sM0, hWI⟩ := hI
  have hb0 := hb
  obtain ⟨hX, hm, hk4, hd4, h20, hn1, hw1, hv0⟩ := hb0
  have h0 := hX.1
  have h178 := hm.1
  have hW := hWI.1
  have w0 := hW.1
  have w1 := hW.2.1
  have hq : 20000 * (N : Int) ≤ 2000000000 := by omega
  have hC := sC0.1
  have hR := hC.1
  have hrW := hWI.2.2.2.1
  obtain ⟨x1, e1⟩ : ∃ v, I (BIG + 20) (i + 1) = v := ⟨_, rfl⟩
  have r1 : r32 x1 := e1 ▸ hKI.2.2.2 (i + 1)
  have ra1 := r1.1
  have rb1 := r1.2
  obtain ⟨x2, e2⟩ : ∃ v, I (BIG + 20) (i + 2) = v := ⟨_, rfl⟩
  have r2 : r32 x2 := e2 ▸ hKI.2.2.2 (i + 2)
  have ra2 := r2.1
  have rb2 := r2.2
  obtain ⟨x3, e3⟩ : ∃ v, I (BIG + 20) (i + 3) = v := ⟨_, rfl⟩
  have r3 : r32 x3 := e3 ▸ hKI.2.2.2 (i + 3)
  have ra3 := r3.1
  have rb3 := r3.2
  refine q_aload_n hG rfl rfl ?_
  refine q_aload_n hG rfl rfl ?_
  refine q_iload hG rfl rfl ?_
  refine q_iconst (v := 1) hG rfl rfl ?_
  refine q_iadd hG rfl ?_
  refine q_iald9v (v := x1) hG rfl h20 ⟨by omega, by omega, by omega⟩ (by rw [show ((i : Int) + 1).toNat = i + 1 by omega]; exact e1) ?_
  refine q_aload_n hG rfl rfl ?_
  refine q_iload hG rfl rfl ?_
  refine q_iconst (v := 2) hG rfl rfl ?_
  refine q_iadd hG rfl ?_
  refine q_iald9v (v := x2) hG rfl h20 ⟨by omega, by omega, by omega⟩ (by rw [show ((i : Int) + 2).toNat = i + 2 by omega]; exact e2) ?_
  refine q_aload_n hG rfl rfl ?_
  refine q_iload hG rfl rfl ?_
  refine q_iconst (v := 3) hG rfl rfl ?_
  refine q_iadd hG rfl ?_
  refine q_iald9v (v := x3) hG rfl h20 ⟨by omega, by omega, by omega⟩ (by rw [show ((i : Int) + 3).toNat = i + 3 by omega]; exact e3) ?_
  refine q_aload_n hG rfl rfl ?_
  refine q_callS0 hG rfl rfl rfl (s_L_narrow h0 (fun P y z2 z0 z1 => s_P_narrow hX hC hW hq r1 r2 r3 (fun a1 => z2 _ _ ?_) (fun a1 a2 => z0 _ _ ?_) (fun a1 a2 a3 J c1 c2 => y _ _ _ hk4 ?_) (fun a1 a2 a3 J c1 c2 => z1 _ _ ?_)))
  · have u : upB B (junk B 6) := upB.junk B
    have f : frX I I := frX.refl I
    have sC := sC0
    have sM := sM0
    have hm9 := hm.cg u.cg
    have h178 := (u.1 178).trans h178
    have h20 := (u.1 (BIG + 20)).trans h20
    have hk9 := (u.1 184).trans hk4
    have hd9 := (u.1 185).trans hd4
    refine q_istore hG rfl rfl ?_
    refine q_aload_n hG rfl rfl ?_
    refine q_aload_n hG rfl rfl ?_
    refine q_iload hG rfl rfl ?_
    refine q_iconst (v := 1) hG rfl rfl ?_
    refine q_iadd hG rfl ?_
    refine q_iald9v (v := x1) hG rfl h20 ⟨by omega, by omega, by omega⟩ (by rw [show ((i : Int) + 1).toNat = i + 1 by omega]; exact e1) ?_
    refine q_aload_n hG rfl rfl ?_
    refine q_iload hG rfl rfl ?_
    refine q_iconst (v := 2) hG rfl rfl ?_
    refine q_iadd hG rfl ?_
    refine q_iald9v (v := x2) hG rfl h20 ⟨by omega, by omega, by omega⟩ (by rw [show ((i : Int) + 2).toNat = i + 2 by omega]; exact e2) ?_
    refine q_aload_n hG rfl rfl ?_
    refine q_iload hG rfl rfl ?_
    refine q_iconst (v := 3) hG rfl rfl ?_
    refine q_iadd hG rfl ?_
    refine q_iald9v (v := x3) hG rfl h20 ⟨by omega, by omega, by omega⟩ (by rw [show ((i : Int) + 3).toNat = i + 3 by omega]; exact e3) ?_
    refine q_callV6 hG rfl rfl rfl h178 (s_R_narrow hm9 sM.1 hW hq r1 r2 r3 (fun b1 K k1 k2 k3 => ?_) (fun b1 b2 K k1 k2 k3 => ?_) (fun b1 b2 b3 K k1 k2 k3 => ?_) (fun b1 b2 b3 K k1 k2 k3 => ?_))
    · have ht9 := k2
      have sM2 := sM.chg k1 k3
      have g := k3.fM
      refine q_istore hG rfl rfl ?_
      refine q_aload_n hG rfl rfl ?_
      refine q_callV6 hG rfl rfl rfl h178 (s_R_thrown hm9 ht9 ?_)
      refine q_iload hG rfl rfl ?_
      refine q_icmp_eq hG rfl ⟨by omega, by omega⟩ ⟨by omega, by omega⟩ (fun _ => ?_) (fun q => absurd (by decide) q)
      refine q_iload hG rfl rfl ?_
      refine q_if_ne hG rfl ⟨by omega, by omega⟩ (fun _ => ?_) (fun q => absurd (by decide) q)
      refine q_goto hG rfl ?_
      exact hend _ _ _ _ _ (INV.of hb hKI u sC sM2 f g (hWI.up))
    · exfalso
      first | contradiction | omega
    · exfalso
      first | contradiction | omega
    · exfalso
      first | contradiction | omega
  · have u : upB B (junk B 6) := upB.junk B
    have f : frX I I := frX.refl I
    have sC := sC0
    have sM := sM0
    have hm9 := hm.cg u.cg
    have h178 := (u.1 178).trans h178
    have h20 := (u.1 (BIG + 20)).trans h20
    have hk9 := (u.1 184).trans hk4
    have hd9 := (u.1 185).trans hd4
    refine q_istore hG rfl rfl ?_
    refine q_aload_n hG rfl rfl ?_
    refine q_aload_n hG rfl rfl ?_
    refine q_iload hG rfl rfl ?_
    refine q_iconst (v := 1) hG rfl rfl ?_
    refine q_iadd hG rfl ?_
    refine q_iald9v (v := x1) hG rfl h20 ⟨by omega, by omega, by omega⟩ (by rw [show ((i : Int) + 1).toNat = i + 1 by omega]; exact e1) ?_
    refine q_aload_n hG rfl rfl ?_
    refine q_iload hG rfl rfl ?_
    refine q_iconst (v := 2) hG rfl rfl ?_
    refine q_iadd hG rfl ?_
    refine q_iald9v (v := x2) hG rfl h20 ⟨by omega, by omega, by omega⟩ (by rw [show ((i : Int) + 2).toNat = i + 2 by omega]; exact e2) ?_
    refine q_aload_n hG rfl rfl ?_
    refine q_iload hG rfl rfl ?_
    refine q_iconst (v := 3) hG rfl rfl ?_
    refine q_iadd hG rfl ?_
    refine q_iald9v (v := x3) hG rfl h20 ⟨by omega, by omega, by omega⟩ (by rw [show ((i : Int) + 3).toNat = i + 3 by omega]; exact e3) ?_
    refine q_callV6 hG rfl rfl rfl h178 (s_R_narrow hm9 sM.1 hW hq r1 r2 r3 (fun b1 K k1 k2 k3 => ?_) (fun b1 b2 K k1 k2 k3 => ?_) (fun b1 b2 b3 K k1 k2 k3 => ?_) (fun b1 b2 b3 K k1 k2 k3 => ?_))
    · exfalso
      first | contradiction | omega
    · have ht9 := k2
      have sM2 := sM.chg k1 k3
      have g := k3.fM
      refine q_istore hG rfl rfl ?_
      refine q_aload_n hG rfl rfl ?_
      refine q_callV6 hG rfl rfl rfl h178 (s_R_thrown hm9 ht9 ?_)
      refine q_iload hG rfl rfl ?_
      refine q_icmp_eq hG rfl ⟨by omega, by omega⟩ ⟨by omega, by omega⟩ (fun _ => ?_) (fun q => absurd (by decide) q)
      refine q_iload hG rfl rfl ?_
      refine q_if_ne hG rfl ⟨by omega, by omega⟩ (fun _ => ?_) (fun q => absurd (by decide) q)
      refine q_goto hG rfl ?_
      exact hend _ _ _ _ _ (INV.of hb hKI u sC sM2 f g (hWI.up))
    · exfalso
      first | contradiction | omega
    · exfalso
      first | contradiction | omega
  · have u : upB B (sJ B 184 0 (i3 (df (if R (5 + 4 * x1.toNat + 2) < x2 then x2 else R (5 + 4 * x1.toNat + 2)) (R (5 + 4 * x1.toNat + 2)) + df (if x3 < R (5 + 4 * x1.toNat + 3) then x3 else R (5 + 4 * x1.toNat + 3)) (R (5 + 4 * x1.toNat + 3)))).toInt64) := (upB.refl B).J (i3 (df (if R (5 + 4 * x1.toNat + 2) < x2 then x2 else R (5 + 4 * x1.toNat + 2)) (R (5 + 4 * x1.toNat + 2)) + df (if x3 < R (5 + 4 * x1.toNat + 3) then x3 else R (5 + 4 * x1.toNat + 3)) (R (5 + 4 * x1.toNat + 3)))).toInt64
    have hj9 : hJ (sJ B 184 0 (i3 (df (if R (5 + 4 * x1.toNat + 2) < x2 then x2 else R (5 + 4 * x1.toNat + 2)) (R (5 + 4 * x1.toNat + 2)) + df (if x3 < R (5 + 4 * x1.toNat + 3) then x3 else R (5 + 4 * x1.toNat + 3)) (R (5 + 4 * x1.toNat + 3)))).toInt64) 184 0 = (i3 (df (if R (5 + 4 * x1.toNat + 2) < x2 then x2 else R (5 + 4 * x1.toNat + 2)) (R (5 + 4 * x1.toNat + 2)) + df (if x3 < R (5 + 4 * x1.toNat + 3) then x3 else R (5 + 4 * x1.toNat + 3)) (R (5 + 4 * x1.toNat + 3)))).toInt64 := sJ_at B _
    have f : frX I J := fr158 c2
    have sC := sC0.chg c1 c2
    have sM := sM0.cls f
    have hm9 := hm.cg u.cg
    have h178 := (u.1 178).trans h178
    have h20 := (u.1 (BIG + 20)).trans h20
    have hk9 := (u.1 184).trans hk4
    have hd9 := (u.1 185).trans hd4
    have e1 : J (BIG + 20) (i + 1) = x1 := by rw [f (BIG + 20) (Or.inr (by omega))]; exact e1
    have e2 : J (BIG + 20) (i + 2) = x2 := by rw [f (BIG + 20) (Or.inr (by omega))]; exact e2
    have e3 : J (BIG + 20) (i + 3) = x3 := by rw [f (BIG + 20) (Or.inr (by omega))]; exact e3
    refine q_istore hG rfl rfl ?_
    refine q_aload_n hG rfl rfl ?_
    refine q_aload_n hG rfl rfl ?_
    refine q_iload hG rfl rfl ?_
    refine q_iconst (v := 1) hG rfl rfl ?_
    refine q_iadd hG rfl ?_
    refine q_iald9v (v := x1) hG rfl h20 ⟨by omega, by omega, by omega⟩ (by rw [show ((i : Int) + 1).toNat = i + 1 by omega]; exact e1) ?_
    refine q_aload_n hG rfl rfl ?_
    refine q_iload hG rfl rfl ?_
    refine q_iconst (v := 2) hG rfl rfl ?_
    refine q_iadd hG rfl ?_
    refine q_iald9v (v := x2) hG rfl h20 ⟨by omega, by omega, by omega⟩ (by rw [show ((i : Int) + 2).toNat = i + 2 by omega]; exact e2) ?_
    refine q_aload_n hG rfl rfl ?_
    refine q_iload hG rfl rfl ?_
    refine q_iconst (v := 3) hG rfl rfl ?_
    refine q_iadd hG rfl ?_
    refine q_iald9v (v := x3) hG rfl h20 ⟨by omega, by omega, by omega⟩ (by rw [show ((i : Int) + 3).toNat = i + 3 by omega]; exact e3) ?_
    refine q_callV6 hG rfl rfl rfl h178 (s_R_narrow hm9 sM.1 hW hq r1 r2 r3 (fun b1 K k1 k2 k3 => ?_) (fun b1 b2 K k1 k2 k3 => ?_) (fun b1 b2 b3 K k1 k2 k3 => ?_) (fun b1 b2 b3 K k1 k2 k3 => ?_))
    · exfalso
      first | contradiction | omega
    · exfalso
      first | contradiction | omega
    · exfalso
      exact absurd a3 (Int.not_le.mpr b3)
    · have ht9 := k2
      have sM2 := sM.chg k1 k3
      have g := k3.fM
      refine q_istore hG rfl rfl ?_
      refine q_aload_n hG rfl rfl ?_
      refine q_callV6 hG rfl rfl rfl h178 (s_R_thrown hm9 ht9 ?_)
      refine q_iload hG rfl rfl ?_
      refine q_icmp_eq hG rfl ⟨by omega, by omega⟩ ⟨by omega, by omega⟩ (fun _ => ?_) (fun q => absurd (by decide) q)
      refine q_iload hG rfl rfl ?_
      refine q_if_ne hG rfl ⟨by omega, by omega⟩ (fun q => absurd q (by decide)) (fun _ => ?_)
      refine q_aload_n hG rfl rfl ?_
      refine q_iconst (v := 0) hG rfl rfl ?_
      refine q_laldX hG rfl hk9 hj9 ?_
      refine q_iload hG rfl rfl ?_
      refine q_i2l hG rfl ?_
      refine q_lcmp_same hG rfl ?_
      refine q_if_eq hG rfl ⟨by omega, by omega⟩ (fun _ => ?_) (fun q => absurd (by decide) q)
      refine q_goto hG rfl ?_
      exact hend _ _ _ _ _ (INV.of hb hKI u sC sM2 f g (hWI.chg ((outC_W (kd := 0) hW (v := 3) (by omega) (oc3_o ⟨a1, a2⟩ a3)).up (by omega))))
  · have u : upB B (junk B 6) := upB.junk B
    have f : frX I J := fr158 c2
    have sC := sC0.chg c1 c2
    have sM := sM0.cls f
    have hm9 := hm.cg u.cg
    have h178 := (u.1 178).trans h178
    have h20 := (u.1 (BIG + 20)).trans h20
    have hk9 := (u.1 184).trans hk4
    have hd9 := (u.1 185).trans hd4
    have e1 : J (BIG + 20) (i + 1) = x1 := by rw [f (BIG + 20) (Or.inr (by omega))]; exact e1
    have e2 : J (BIG + 20) (i + 2) = x2 := by rw [f (BIG + 20) (Or.inr (by omega))]; exact e2
    have e3 : J (BIG + 20) (i + 3) = x3 := by rw [f (BIG + 20) (Or.inr (by omega))]; exact e3
    refine q_istore hG rfl rfl ?_
    refine q_aload_n hG rfl rfl ?_
    refine q_aload_n hG rfl rfl ?_
    refine q_iload hG rfl rfl ?_
    refine q_iconst (v := 1) hG rfl rfl ?_
    refine q_iadd hG rfl ?_
    refine q_iald9v (v := x1) hG rfl h20 ⟨by omega, by omega, by omega⟩ (by rw [show ((i : Int) + 1).toNat = i + 1 by omega]; exact e1) ?_
    refine q_aload_n hG rfl rfl ?_
    refine q_iload hG rfl rfl ?_
    refine q_iconst (v := 2) hG rfl rfl ?_
    refine q_iadd hG rfl ?_
    refine q_iald9v (v := x2) hG rfl h20 ⟨by omega, by omega, by omega⟩ (by rw [show ((i : Int) + 2).toNat = i + 2 by omega]; exact e2) ?_
    refine q_aload_n hG rfl rfl ?_
    refine q_iload hG rfl rfl ?_
    refine q_iconst (v := 3) hG rfl rfl ?_
    refine q_iadd hG rfl ?_
    refine q_iald9v (v := x3) hG rfl h20 ⟨by omega, by omega, by omega⟩ (by rw [show ((i : Int) + 3).toNat = i + 3 by omega]; exact e3) ?_
    refine q_callV6 hG rfl rfl rfl h178 (s_R_narrow hm9 sM.1 hW hq r1 r2 r3 (fun b1 K k1 k2 k3 => ?_) (fun b1 b2 K k1 k2 k3 => ?_) (fun b1 b2 b3 K k1 k2 k3 => ?_) (fun b1 b2 b3 K k1 k2 k3 => ?_))
    · exfalso
      first | contradiction | omega
    · exfalso
      first | contradiction | omega
    · have ht9 := k2
      have sM2 := sM.chg k1 k3
      have g := k3.fM
      refine q_istore hG rfl rfl ?_
      refine q_aload_n hG rfl rfl ?_
      refine q_callV6 hG rfl rfl rfl h178 (s_R_thrown hm9 ht9 ?_)
      refine q_iload hG rfl rfl ?_
      refine q_icmp_eq hG rfl ⟨by omega, by omega⟩ ⟨by omega, by omega⟩ (fun _ => ?_) (fun q => absurd (by decide) q)
      refine q_iload hG rfl rfl ?_
      refine q_if_ne hG rfl ⟨by omega, by omega⟩ (fun _ => ?_) (fun q => absurd (by decide) q)
      refine q_goto hG rfl ?_
      exact hend _ _ _ _ _ (INV.of hb hKI u sC sM2 f g (hWI.rej ⟨by decide, by decide⟩))
    · exfalso
      exact absurd b3 (Int.not_le.mpr a3)
set_option maxRecDepth 100000 in
theorem lc_3 {d : Nat} {Post : Out → HP → Prop} {G : Nat → LV → List Value → HP → Prop} (hG : Cl (Sp (d + 21)) md_L_law Post G) {N L : Nat} {B : HP} {I : IM} (hI : INV N L B I) (hN : N ≤ 512) {i : Nat} (hi : i + 5 ≤ L) (hL : L ≤ 2560) (hend : ∀ (B2 : HP) (K : IM) (l6 l7 l8 : Option Value), INV (N + 1) L B2 K → G 2835 [some (.ref (BIG + 20)), some (.ref 0), some (.ref 178), some (.ref 184), some (.ref 185), some (.int (i3 (i : Int))), l6, l7, l8] [] (wI B2 K)) (l6 l7 l8 : Option Value) : G 504 [some (.ref (BIG + 20)), some (.ref 0), some (.ref 178), some (.ref 184), some (.ref 185), some (.int (i3 (i : Int))), l6, l7, l8] [] (wI B I) := by
  obtain ⟨R, c, h, sv, SR, eo, why, det, cau, o, l, hb, hKI, sC0, sM0, hWI⟩ := hI
  have hb0 := hb
  obtain ⟨hX, hm, hk4, hd4, h20, hn1, hw1, hv0⟩ := hb0
  have h0 := hX.1
  have h178 := hm.1
  have hW := hWI.1
  have w0 := hW.1
  have w1 := hW.2.1
  have hq : 20000 * (N : Int) ≤ 2000000000 := by omega
  have hC := sC0.1
  have hR := hC.1
  have hrW := hWI.2.2.2.1
  refine q_aload_n hG rfl rfl ?_
  refine q_callV6 hG rfl rfl rfl h0 (s_P_reset hX hC hW hq (fun J c1 c2 => ?_))
  have u : upB B B := upB.refl B
  have f : frX I J := fr158 c2
  have sC := sC0.chg c1 c2
  have sM := sM0.cls f
  have hm9 := hm.cg u.cg
  have h178 := (u.1 178).trans h178
  have h20 := (u.1 (BIG + 20)).trans h20
  have hk9 := (u.1 184).trans hk4
  have hd9 := (u.1 185).trans hd4
  refine q_aload_n hG rfl rfl ?_
  refine q_callV6 hG rfl rfl rfl h178 (s_R_reset hm9 sM.1 hW hq (fun K k1 k2 k3 => ?_))
  have ht9 := k2
  have sM2 := sM.chg k1 k3
  have g := k3.fM
  refine q_icmp_same hG rfl ?_
  exact hend _ _ _ _ _ (INV.of hb hKI u sC sM2 f g (hWI.chg ((outC_W (kd := 0) (a := 0) (b := 0) (c := 0) hW (v := 8) (by omega) oc8_o).up (by omega))))
set_option maxRecDepth 100000 in
theorem lc_12 {d : Nat} {Post : Out → HP → Prop} {G : Nat → LV → List Value → HP → Prop} (hG : Cl (Sp (d + 21)) md_L_law Post G) {N L : Nat} {B : HP} {I : IM} (hI : INV N L B I) (hN : N ≤ 512) {i : Nat} (hi : i + 5 ≤ L) (hL : L ≤ 2560) (hend : ∀ (B2 : HP) (K : IM) (l6 l7 l8 : Option Value), INV (N + 1) L B2 K → G 2835 [some (.ref (BIG + 20)), some (.ref 0), some (.ref 178), some (.ref 184), some (.ref 185), some (.int (i3 (i : Int))), l6, l7, l8] [] (wI B2 K)) (l6 l7 l8 : Option Value) : G 929 [some (.ref (BIG + 20)), some (.ref 0), some (.ref 178), some (.ref 184), some (.ref 185), some (.int (i3 (i : Int))), l6, l7, l8] [] (wI B I) := by
  obtain ⟨R, c, h, sv, SR, eo, why, det, cau, o, l, hb, hKI, sC0, sM0, hWI⟩ := hI
  have hb0 := hb
  obtain ⟨hX, hm, hk4, hd4, h20, hn1, hw1, hv0⟩ := hb0
  have h0 := hX.1
  have h178 := hm.1
  have hW := hWI.1
  have w0 := hW.1
  have w1 := hW.2.1
  have hq : 20000 * (N : Int) ≤ 2000000000 := by omega
  have hC := sC0.1
  have hR := hC.1
  have hrW := hWI.2.2.2.1
  obtain ⟨x1, e1⟩ : ∃ v, I (BIG + 20) (i + 1) = v := ⟨_, rfl⟩
  have r1 : r32 x1 := e1 ▸ hKI.2.2.2 (i + 1)
  have ra1 := r1.1
  have rb1 := r1.2
  obtain ⟨x2, e2⟩ : ∃ v, I (BIG + 20) (i + 2) = v := ⟨_, rfl⟩
  have r2 : r32 x2 := e2 ▸ hKI.2.2.2 (i + 2)
  have ra2 := r2.1
  have rb2 := r2.2
  obtain ⟨x3, e3⟩ : ∃ v, I (BIG + 20) (i + 3) = v := ⟨_, rfl⟩
  have r3 : r32 x3 := e3 ▸ hKI.2.2.2 (i + 3)
  have ra3 := r3.1
  have rb3 := r3.2
  obtain ⟨x4, e4⟩ : ∃ v, I (BIG + 20) (i + 4) = v := ⟨_, rfl⟩
  have r4 : r32 x4 := e4 ▸ hKI.2.2.2 (i + 4)
  have ra4 := r4.1
  have rb4 := r4.2
  refine q_aload_n hG rfl rfl ?_
  refine q_aload_n hG rfl rfl ?_
  refine q_iload hG rfl rfl ?_
  refine q_iconst (v := 1) hG rfl rfl ?_
  refine q_iadd hG rfl ?_
  refine q_iald9v (v := x1) hG rfl h20 ⟨by omega, by omega, by omega⟩ (by rw [show ((i : Int) + 1).toNat = i + 1 by omega]; exact e1) ?_
  refine q_i2c hG rfl ?_
  refine q_aload_n hG rfl rfl ?_
  refine q_iload hG rfl rfl ?_
  refine q_iconst (v := 2) hG rfl rfl ?_
  refine q_iadd hG rfl ?_
  refine q_iald9v (v := x2) hG rfl h20 ⟨by omega, by omega, by omega⟩ (by rw [show ((i : Int) + 2).toNat = i + 2 by omega]; exact e2) ?_
  refine q_aload_n hG rfl rfl ?_
  refine q_iload hG rfl rfl ?_
  refine q_iconst (v := 3) hG rfl rfl ?_
  refine q_iadd hG rfl ?_
  refine q_iald9v (v := x3) hG rfl h20 ⟨by omega, by omega, by omega⟩ (by rw [show ((i : Int) + 3).toNat = i + 3 by omega]; exact e3) ?_
  refine q_aload_n hG rfl rfl ?_
  refine q_iload hG rfl rfl ?_
  refine q_iconst (v := 4) hG rfl rfl ?_
  refine q_iadd hG rfl ?_
  refine q_iald9v (v := x4) hG rfl h20 ⟨by omega, by omega, by omega⟩ (by rw [show ((i : Int) + 4).toNat = i + 4 by omega]; exact e4) ?_
  refine q_aload_n hG rfl rfl ?_
  refine q_callS0 hG rfl rfl rfl (s_L_addConstraint h0 (fun P y z2 z0 z1 => s_P_addCon hX hC hW hq ⟨⟨by omega, by omega⟩, r2, r3, r4⟩ (fun a1 => z2 _ _ ?_) (fun a1 a2 => z0 _ _ ?_) (fun a1 a2 a3 J c1 c2 => z1 _ _ ?_) (fun a1 a2 a3 p a4 J c1 c2 => z1 _ _ ?_) (fun a1 a2 a3 a4 J c1 c2 => y _ _ _ hk4 ?_)))
  · have u : upB B (junk B 6) := upB.junk B
    have f : frX I I := frX.refl I
    have sC := sC0
    have sM := sM0
    have hm9 := hm.cg u.cg
    have h178 := (u.1 178).trans h178
    have h20 := (u.1 (BIG + 20)).trans h20
    have hk9 := (u.1 184).trans hk4
    have hd9 := (u.1 185).trans hd4
    refine q_istore hG rfl rfl ?_
    refine q_aload_n hG rfl rfl ?_
    refine q_aload_n hG rfl rfl ?_
    refine q_iload hG rfl rfl ?_
    refine q_iconst (v := 1) hG rfl rfl ?_
    refine q_iadd hG rfl ?_
    refine q_iald9v (v := x1) hG rfl h20 ⟨by omega, by omega, by omega⟩ (by rw [show ((i : Int) + 1).toNat = i + 1 by omega]; exact e1) ?_
    refine q_i2c hG rfl ?_
    refine q_aload_n hG rfl rfl ?_
    refine q_iload hG rfl rfl ?_
    refine q_iconst (v := 2) hG rfl rfl ?_
    refine q_iadd hG rfl ?_
    refine q_iald9v (v := x2) hG rfl h20 ⟨by omega, by omega, by omega⟩ (by rw [show ((i : Int) + 2).toNat = i + 2 by omega]; exact e2) ?_
    refine q_aload_n hG rfl rfl ?_
    refine q_iload hG rfl rfl ?_
    refine q_iconst (v := 3) hG rfl rfl ?_
    refine q_iadd hG rfl ?_
    refine q_iald9v (v := x3) hG rfl h20 ⟨by omega, by omega, by omega⟩ (by rw [show ((i : Int) + 3).toNat = i + 3 by omega]; exact e3) ?_
    refine q_aload_n hG rfl rfl ?_
    refine q_iload hG rfl rfl ?_
    refine q_iconst (v := 4) hG rfl rfl ?_
    refine q_iadd hG rfl ?_
    refine q_iald9v (v := x4) hG rfl h20 ⟨by omega, by omega, by omega⟩ (by rw [show ((i : Int) + 4).toNat = i + 4 by omega]; exact e4) ?_
    refine q_callV6 hG rfl rfl rfl h178 (s_R_addConstraint hm9 sM.1 hW hq ⟨⟨by omega, by omega⟩, r2, r3, r4⟩ (fun b1 K k1 k2 k3 => ?_) (fun b1 b2 K k1 k2 k3 => ?_) (fun b1 b2 b3 K k1 k2 k3 => ?_) (fun b1 b2 b3 p2 b4 K k1 k2 k3 => ?_) (fun b1 b2 b3 b4 K k1 k2 k3 => ?_))
    · have ht9 := k2
      have sM2 := sM.chg k1 k3
      have g := k3.fM
      refine q_istore hG rfl rfl ?_
      refine q_aload_n hG rfl rfl ?_
      refine q_callV6 hG rfl rfl rfl h178 (s_R_thrown hm9 ht9 ?_)
      refine q_iload hG rfl rfl ?_
      refine q_icmp_eq hG rfl ⟨by omega, by omega⟩ ⟨by omega, by omega⟩ (fun _ => ?_) (fun q => absurd (by decide) q)
      refine q_iload hG rfl rfl ?_
      refine q_if_ne hG rfl ⟨by omega, by omega⟩ (fun _ => ?_) (fun q => absurd (by decide) q)
      refine q_goto hG rfl ?_
      exact hend _ _ _ _ _ (INV.of hb hKI u sC sM2 f g (hWI.up))
    · exfalso
      first | contradiction | omega
    · exfalso
      first | contradiction | omega
    · exfalso
      first | contradiction | omega
    · exfalso
      first | contradiction | omega
  · have u : upB B (junk B 6) := upB.junk B
    have f : frX I I := frX.refl I
    have sC := sC0
    have sM := sM0
    have hm9 := hm.cg u.cg
    have h178 := (u.1 178).trans h178
    have h20 := (u.1 (BIG + 20)).trans h20
    have hk9 := (u.1 184).trans hk4
    have hd9 := (u.1 185).trans hd4
    refine q_istore hG rfl rfl ?_
    refine q_aload_n hG rfl rfl ?_
    refine q_aload_n hG rfl rfl ?_
    refine q_iload hG rfl rfl ?_
    refine q_iconst (v := 1) hG rfl rfl ?_
    refine q_iadd hG rfl ?_
    refine q_iald9v (v := x1) hG rfl h20 ⟨by omega, by omega, by omega⟩ (by rw [show ((i : Int) + 1).toNat = i + 1 by omega]; exact e1) ?_
    refine q_i2c hG rfl ?_
    refine q_aload_n hG rfl rfl ?_
    refine q_iload hG rfl rfl ?_
    refine q_iconst (v := 2) hG rfl rfl ?_
    refine q_iadd hG rfl ?_
    refine q_iald9v (v := x2) hG rfl h20 ⟨by omega, by omega, by omega⟩ (by rw [show ((i : Int) + 2).toNat = i + 2 by omega]; exact e2) ?_
    refine q_aload_n hG rfl rfl ?_
    refine q_iload hG rfl rfl ?_
    refine q_iconst (v := 3) hG rfl rfl ?_
    refine q_iadd hG rfl ?_
    refine q_iald9v (v := x3) hG rfl h20 ⟨by omega, by omega, by omega⟩ (by rw [show ((i : Int) + 3).toNat = i + 3 by omega]; exact e3) ?_
    refine q_aload_n hG rfl rfl ?_
    refine q_iload hG rfl rfl ?_
    refine q_iconst (v := 4) hG rfl rfl ?_
    refine q_iadd hG rfl ?_
    refine q_iald9v (v := x4) hG rfl h20 ⟨by omega, by omega, by omega⟩ (by rw [show ((i : Int) + 4).toNat = i + 4 by omega]; exact e4) ?_
    refine q_callV6 hG rfl rfl rfl h178 (s_R_addConstraint hm9 sM.1 hW hq ⟨⟨by omega, by omega⟩, r2, r3, r4⟩ (fun b1 K k1 k2 k3 => ?_) (fun b1 b2 K k1 k2 k3 => ?_) (fun b1 b2 b3 K k1 k2 k3 => ?_) (fun b1 b2 b3 p2 b4 K k1 k2 k3 => ?_) (fun b1 b2 b3 b4 K k1 k2 k3 => ?_))
    · exfalso
      first | contradiction | omega
    · have ht9 := k2
      have sM2 := sM.chg k1 k3
      have g := k3.fM
      refine q_istore hG rfl rfl ?_
      refine q_aload_n hG rfl rfl ?_
      refine q_callV6 hG rfl rfl rfl h178 (s_R_thrown hm9 ht9 ?_)
      refine q_iload hG rfl rfl ?_
      refine q_icmp_eq hG rfl ⟨by omega, by omega⟩ ⟨by omega, by omega⟩ (fun _ => ?_) (fun q => absurd (by decide) q)
      refine q_iload hG rfl rfl ?_
      refine q_if_ne hG rfl ⟨by omega, by omega⟩ (fun _ => ?_) (fun q => absurd (by decide) q)
      refine q_goto hG rfl ?_
      exact hend _ _ _ _ _ (INV.of hb hKI u sC sM2 f g (hWI.up))
    · exfalso
      first | contradiction | omega
    · exfalso
      first | contradiction | omega
    · exfalso
      first | contradiction | omega
  · have u : upB B (junk B 6) := upB.junk B
    have f : frX I J := fr158 c2
    have sC := sC0.chg c1 c2
    have sM := sM0.cls f
    have hm9 := hm.cg u.cg
    have h178 := (u.1 178).trans h178
    have h20 := (u.1 (BIG + 20)).trans h20
    have hk9 := (u.1 184).trans hk4
    have hd9 := (u.1 185).trans hd4
    have e1 : J (BIG + 20) (i + 1) = x1 := by rw [f (BIG + 20) (Or.inr (by omega))]; exact e1
    have e2 : J (BIG + 20) (i + 2) = x2 := by rw [f (BIG + 20) (Or.inr (by omega))]; exact e2
    have e3 : J (BIG + 20) (i + 3) = x3 := by rw [f (BIG + 20) (Or.inr (by omega))]; exact e3
    have e4 : J (BIG + 20) (i + 4) = x4 := by rw [f (BIG + 20) (Or.inr (by omega))]; exact e4
    refine q_istore hG rfl rfl ?_
    refine q_aload_n hG rfl rfl ?_
    refine q_aload_n hG rfl rfl ?_
    refine q_iload hG rfl rfl ?_
    refine q_iconst (v := 1) hG rfl rfl ?_
    refine q_iadd hG rfl ?_
    refine q_iald9v (v := x1) hG rfl h20 ⟨by omega, by omega, by omega⟩ (by rw [show ((i : Int) + 1).toNat = i + 1 by omega]; exact e1) ?_
    refine q_i2c hG rfl ?_
    refine q_aload_n hG rfl rfl ?_
    refine q_iload hG rfl rfl ?_
    refine q_iconst (v := 2) hG rfl rfl ?_
    refine q_iadd hG rfl ?_
    refine q_iald9v (v := x2) hG rfl h20 ⟨by omega, by omega, by omega⟩ (by rw [show ((i : Int) + 2).toNat = i + 2 by omega]; exact e2) ?_
    refine q_aload_n hG rfl rfl ?_
    refine q_iload hG rfl rfl ?_
    refine q_iconst (v := 3) hG rfl rfl ?_
    refine q_iadd hG rfl ?_
    refine q_iald9v (v := x3) hG rfl h20 ⟨by omega, by omega, by omega⟩ (by rw [show ((i : Int) + 3).toNat = i + 3 by omega]; exact e3) ?_
    refine q_aload_n hG rfl rfl ?_
    refine q_iload hG rfl rfl ?_
    refine q_iconst (v := 4) hG rfl rfl ?_
    refine q_iadd hG rfl ?_
    refine q_iald9v (v := x4) hG rfl h20 ⟨by omega, by omega, by omega⟩ (by rw [show ((i : Int) + 4).toNat = i + 4 by omega]; exact e4) ?_
    refine q_callV6 hG rfl rfl rfl h178 (s_R_addConstraint hm9 sM.1 hW hq ⟨⟨by omega, by omega⟩, r2, r3, r4⟩ (fun b1 K k1 k2 k3 => ?_) (fun b1 b2 K k1 k2 k3 => ?_) (fun b1 b2 b3 K k1 k2 k3 => ?_) (fun b1 b2 b3 p2 b4 K k1 k2 k3 => ?_) (fun b1 b2 b3 b4 K k1 k2 k3 => ?_))
    · exfalso
      first | contradiction | omega
    · exfalso
      first | contradiction | omega
    · have ht9 := k2
      have sM2 := sM.chg k1 k3
      have g := k3.fM
      refine q_istore hG rfl rfl ?_
      refine q_aload_n hG rfl rfl ?_
      refine q_callV6 hG rfl rfl rfl h178 (s_R_thrown hm9 ht9 ?_)
      refine q_iload hG rfl rfl ?_
      refine q_icmp_eq hG rfl ⟨by omega, by omega⟩ ⟨by omega, by omega⟩ (fun _ => ?_) (fun q => absurd (by decide) q)
      refine q_iload hG rfl rfl ?_
      refine q_if_ne hG rfl ⟨by omega, by omega⟩ (fun _ => ?_) (fun q => absurd (by decide) q)
      refine q_goto hG rfl ?_
      exact hend _ _ _ _ _ (INV.of hb hKI u sC sM2 f g (hWI.rej ⟨by decide, by decide⟩))
    · exfalso
      first | contradiction | omega
    · exfalso
      first | contradiction | omega
  · have u : upB B (junk B 6) := upB.junk B
    have f : frX I J := fr158 c2
    have sC := sC0.chg c1 c2
    have sM := sM0.cls f
    have hm9 := hm.cg u.cg
    have h178 := (u.1 178).trans h178
    have h20 := (u.1 (BIG + 20)).trans h20
    have hk9 := (u.1 184).trans hk4
    have hd9 := (u.1 185).trans hd4
    have e1 : J (BIG + 20) (i + 1) = x1 := by rw [f (BIG + 20) (Or.inr (by omega))]; exact e1
    have e2 : J (BIG + 20) (i + 2) = x2 := by rw [f (BIG + 20) (Or.inr (by omega))]; exact e2
    have e3 : J (BIG + 20) (i + 3) = x3 := by rw [f (BIG + 20) (Or.inr (by omega))]; exact e3
    have e4 : J (BIG + 20) (i + 4) = x4 := by rw [f (BIG + 20) (Or.inr (by omega))]; exact e4
    refine q_istore hG rfl rfl ?_
    refine q_aload_n hG rfl rfl ?_
    refine q_aload_n hG rfl rfl ?_
    refine q_iload hG rfl rfl ?_
    refine q_iconst (v := 1) hG rfl rfl ?_
    refine q_iadd hG rfl ?_
    refine q_iald9v (v := x1) hG rfl h20 ⟨by omega, by omega, by omega⟩ (by rw [show ((i : Int) + 1).toNat = i + 1 by omega]; exact e1) ?_
    refine q_i2c hG rfl ?_
    refine q_aload_n hG rfl rfl ?_
    refine q_iload hG rfl rfl ?_
    refine q_iconst (v := 2) hG rfl rfl ?_
    refine q_iadd hG rfl ?_
    refine q_iald9v (v := x2) hG rfl h20 ⟨by omega, by omega, by omega⟩ (by rw [show ((i : Int) + 2).toNat = i + 2 by omega]; exact e2) ?_
    refine q_aload_n hG rfl rfl ?_
    refine q_iload hG rfl rfl ?_
    refine q_iconst (v := 3) hG rfl rfl ?_
    refine q_iadd hG rfl ?_
    refine q_iald9v (v := x3) hG rfl h20 ⟨by omega, by omega, by omega⟩ (by rw [show ((i : Int) + 3).toNat = i + 3 by omega]; exact e3) ?_
    refine q_aload_n hG rfl rfl ?_
    refine q_iload hG rfl rfl ?_
    refine q_iconst (v := 4) hG rfl rfl ?_
    refine q_iadd hG rfl ?_
    refine q_iald9v (v := x4) hG rfl h20 ⟨by omega, by omega, by omega⟩ (by rw [show ((i : Int) + 4).toNat = i + 4 by omega]; exact e4) ?_
    refine q_callV6 hG rfl rfl rfl h178 (s_R_addConstraint hm9 sM.1 hW hq ⟨⟨by omega, by omega⟩, r2, r3, r4⟩ (fun b1 K k1 k2 k3 => ?_) (fun b1 b2 K k1 k2 k3 => ?_) (fun b1 b2 b3 K k1 k2 k3 => ?_) (fun b1 b2 b3 p2 b4 K k1 k2 k3 => ?_) (fun b1 b2 b3 b4 K k1 k2 k3 => ?_))
    · exfalso
      first | contradiction | omega
    · exfalso
      first | contradiction | omega
    · exfalso
      first | contradiction | omega
    · have ep := fst_u a4 b4
      subst ep
      have ht9 := k2
      have sM2 := sM.chg k1 k3
      have g := k3.fM
      refine q_istore hG rfl rfl ?_
      refine q_aload_n hG rfl rfl ?_
      refine q_callV6 hG rfl rfl rfl h178 (s_R_thrown hm9 ht9 ?_)
      refine q_iload hG rfl rfl ?_
      refine q_icmp_eq hG rfl ⟨by omega, by omega⟩ ⟨by omega, by omega⟩ (fun _ => ?_) (fun q => absurd (by decide) q)
      refine q_iload hG rfl rfl ?_
      refine q_if_ne hG rfl ⟨by omega, by omega⟩ (fun _ => ?_) (fun q => absurd (by decide) q)
      refine q_goto hG rfl ?_
      exact hend _ _ _ _ _ (INV.of hb hKI u sC sM2 f g (hWI.rej ⟨by decide, by decide⟩))
    · exfalso
      exact b4 p a4.1 a4.2.1
  · have u : upB B (sJ B 184 0 (i3 (R 2)).toInt64) := (upB.refl B).J (i3 (R 2)).toInt64
    have hj9 : hJ (sJ B 184 0 (i3 (R 2)).toInt64) 184 0 = (i3 (R 2)).toInt64 := sJ_at B _
    have f : frX I J := fr158 c2
    have sC := sC0.chg c1 c2
    have sM := sM0.cls f
    have hm9 := hm.cg u.cg
    have h178 := (u.1 178).trans h178
    have h20 := (u.1 (BIG + 20)).trans h20
    have hk9 := (u.1 184).trans hk4
    have hd9 := (u.1 185).trans hd4
    have e1 : J (BIG + 20) (i + 1) = x1 := by rw [f (BIG + 20) (Or.inr (by omega))]; exact e1
    have e2 : J (BIG + 20) (i + 2) = x2 := by rw [f (BIG + 20) (Or.inr (by omega))]; exact e2
    have e3 : J (BIG + 20) (i + 3) = x3 := by rw [f (BIG + 20) (Or.inr (by omega))]; exact e3
    have e4 : J (BIG + 20) (i + 4) = x4 := by rw [f (BIG + 20) (Or.inr (by omega))]; exact e4
    refine q_istore hG rfl rfl ?_
    refine q_aload_n hG rfl rfl ?_
    refine q_aload_n hG rfl rfl ?_
    refine q_iload hG rfl rfl ?_
    refine q_iconst (v := 1) hG rfl rfl ?_
    refine q_iadd hG rfl ?_
    refine q_iald9v (v := x1) hG rfl h20 ⟨by omega, by omega, by omega⟩ (by rw [show ((i : Int) + 1).toNat = i + 1 by omega]; exact e1) ?_
    refine q_i2c hG rfl ?_
    refine q_aload_n hG rfl rfl ?_
    refine q_iload hG rfl rfl ?_
    refine q_iconst (v := 2) hG rfl rfl ?_
    refine q_iadd hG rfl ?_
    refine q_iald9v (v := x2) hG rfl h20 ⟨by omega, by omega, by omega⟩ (by rw [show ((i : Int) + 2).toNat = i + 2 by omega]; exact e2) ?_
    refine q_aload_n hG rfl rfl ?_
    refine q_iload hG rfl rfl ?_
    refine q_iconst (v := 3) hG rfl rfl ?_
    refine q_iadd hG rfl ?_
    refine q_iald9v (v := x3) hG rfl h20 ⟨by omega, by omega, by omega⟩ (by rw [show ((i : Int) + 3).toNat = i + 3 by omega]; exact e3) ?_
    refine q_aload_n hG rfl rfl ?_
    refine q_iload hG rfl rfl ?_
    refine q_iconst (v := 4) hG rfl rfl ?_
    refine q_iadd hG rfl ?_
    refine q_iald9v (v := x4) hG rfl h20 ⟨by omega, by omega, by omega⟩ (by rw [show ((i : Int) + 4).toNat = i + 4 by omega]; exact e4) ?_
    refine q_callV6 hG rfl rfl rfl h178 (s_R_addConstraint hm9 sM.1 hW hq ⟨⟨by omega, by omega⟩, r2, r3, r4⟩ (fun b1 K k1 k2 k3 => ?_) (fun b1 b2 K k1 k2 k3 => ?_) (fun b1 b2 b3 K k1 k2 k3 => ?_) (fun b1 b2 b3 p2 b4 K k1 k2 k3 => ?_) (fun b1 b2 b3 b4 K k1 k2 k3 => ?_))
    · exfalso
      first | contradiction | omega
    · exfalso
      first | contradiction | omega
    · exfalso
      first | contradiction | omega
    · exfalso
      exact a4 p2 b4.1 b4.2.1
    · have ht9 := k2
      have sM2 := sM.chg k1 k3
      have g := k3.fM
      refine q_istore hG rfl rfl ?_
      refine q_aload_n hG rfl rfl ?_
      refine q_callV6 hG rfl rfl rfl h178 (s_R_thrown hm9 ht9 ?_)
      refine q_iload hG rfl rfl ?_
      refine q_icmp_eq hG rfl ⟨by omega, by omega⟩ ⟨by omega, by omega⟩ (fun _ => ?_) (fun q => absurd (by decide) q)
      refine q_iload hG rfl rfl ?_
      refine q_if_ne hG rfl ⟨by omega, by omega⟩ (fun q => absurd q (by decide)) (fun _ => ?_)
      refine q_aload_n hG rfl rfl ?_
      refine q_iconst (v := 0) hG rfl rfl ?_
      refine q_laldX hG rfl hk9 hj9 ?_
      refine q_iload hG rfl rfl ?_
      refine q_i2l hG rfl ?_
      refine q_lcmp_same hG rfl ?_
      refine q_if_eq hG rfl ⟨by omega, by omega⟩ (fun _ => ?_) (fun q => absurd (by decide) q)
      refine q_goto hG rfl ?_
      exact hend _ _ _ _ _ (INV.of hb hKI u sC sM2 f g (hWI.chg ((outC_W hW (v := 4) (by omega) (oc4_o ⟨a1, a2⟩ a3 a4)).up (by omega))))
set_option maxRecDepth 100000 in
theorem lc_13 {d : Nat} {Post : Out → HP → Prop} {G : Nat → LV → List Value → HP → Prop} (hG : Cl (Sp (d + 21)) md_L_law Post G) {N L : Nat} {B : HP} {I : IM} (hI : INV N L B I) (hN : N ≤ 512) {i : Nat} (hi : i + 5 ≤ L) (hL : L ≤ 2560) (hend : ∀ (B2 : HP) (K : IM) (l6 l7 l8 : Option Value), INV (N + 1) L B2 K → G 2835 [some (.ref (BIG + 20)), some (.ref 0), some (.ref 178), some (.ref 184), some (.ref 185), some (.int (i3 (i : Int))), l6, l7, l8] [] (wI B2 K)) (l6 l7 l8 : Option Value) : G 1023 [some (.ref (BIG + 20)), some (.ref 0), some (.ref 178), some (.ref 184), some (.ref 185), some (.int (i3 (i : Int))), l6, l7, l8] [] (wI B I) := by
  obtain ⟨R, c, h, sv, SR, eo, why, det, cau, o, l, hb, hKI, sC0, sM0, hWI⟩ := hI
  have hb0 := hb
  obtain ⟨hX, hm, hk4, hd4, h20, hn1, hw1, hv0⟩ := hb0
  have h0 := hX.1
  have h178 := hm.1
  have hW := hWI.1
  have w0 := hW.1
  have w1 := hW.2.1
  have hq : 20000 * (N : Int) ≤ 2000000000 := by omega
  have hC := sC0.1
  have hR := hC.1
  have hrW := hWI.2.2.2.1
  obtain ⟨x1, e1⟩ : ∃ v, I (BIG + 20) (i + 1) = v := ⟨_, rfl⟩
  have r1 : r32 x1 := e1 ▸ hKI.2.2.2 (i + 1)
  have ra1 := r1.1
  have rb1 := r1.2
  refine q_aload_n hG rfl rfl ?_
  refine q_aload_n hG rfl rfl ?_
  refine q_iload hG rfl rfl ?_
  refine q_iconst (v := 1) hG rfl rfl ?_
  refine q_iadd hG rfl ?_
  refine q_iald9v (v := x1) hG rfl h20 ⟨by omega, by omega, by omega⟩ (by rw [show ((i : Int) + 1).toNat = i + 1 by omega]; exact e1) ?_
  refine q_aload_n hG rfl rfl ?_
  refine q_callS0 hG rfl rfl rfl (s_L_removeConstraint h0 (fun P y z3 => s_P_removeCon hX hC hW hq r1 (fun a1 => z3 _ _ ?_) (fun p a1 J c1 c2 => y _ _ _ hk4 ?_)))
  · have u : upB B (junk B 6) := upB.junk B
    have f : frX I I := frX.refl I
    have sC := sC0
    have sM := sM0
    have hm9 := hm.cg u.cg
    have h178 := (u.1 178).trans h178
    have h20 := (u.1 (BIG + 20)).trans h20
    have hk9 := (u.1 184).trans hk4
    have hd9 := (u.1 185).trans hd4
    refine q_istore hG rfl rfl ?_
    refine q_aload_n hG rfl rfl ?_
    refine q_aload_n hG rfl rfl ?_
    refine q_iload hG rfl rfl ?_
    refine q_iconst (v := 1) hG rfl rfl ?_
    refine q_iadd hG rfl ?_
    refine q_iald9v (v := x1) hG rfl h20 ⟨by omega, by omega, by omega⟩ (by rw [show ((i : Int) + 1).toNat = i + 1 by omega]; exact e1) ?_
    refine q_callV6 hG rfl rfl rfl h178 (s_R_removeConstraint hm9 sM.1 hW hq r1 (fun b1 K k1 k2 k3 => ?_) (fun p2 b1 K k1 k2 k3 => ?_))
    · have ht9 := k2
      have sM2 := sM.chg k1 k3
      have g := k3.fM
      refine q_istore hG rfl rfl ?_
      refine q_aload_n hG rfl rfl ?_
      refine q_callV6 hG rfl rfl rfl h178 (s_R_thrown hm9 ht9 ?_)
      refine q_iload hG rfl rfl ?_
      refine q_icmp_eq hG rfl ⟨by omega, by omega⟩ ⟨by omega, by omega⟩ (fun _ => ?_) (fun q => absurd (by decide) q)
      refine q_iload hG rfl rfl ?_
      refine q_if_ne hG rfl ⟨by omega, by omega⟩ (fun _ => ?_) (fun q => absurd (by decide) q)
      refine q_goto hG rfl ?_
      exact hend _ _ _ _ _ (INV.of hb hKI u sC sM2 f g (hWI.up))
    · exfalso
      exact a1 p2 b1.1 b1.2.1
  · have u : upB B (sJ B 184 0 (i3 (R 1 - 1)).toInt64) := (upB.refl B).J (i3 (R 1 - 1)).toInt64
    have hj9 : hJ (sJ B 184 0 (i3 (R 1 - 1)).toInt64) 184 0 = (i3 (R 1 - 1)).toInt64 := sJ_at B _
    have f : frX I J := fr158 c2
    have sC := sC0.chg c1 c2
    have sM := sM0.cls f
    have hm9 := hm.cg u.cg
    have h178 := (u.1 178).trans h178
    have h20 := (u.1 (BIG + 20)).trans h20
    have hk9 := (u.1 184).trans hk4
    have hd9 := (u.1 185).trans hd4
    have e1 : J (BIG + 20) (i + 1) = x1 := by rw [f (BIG + 20) (Or.inr (by omega))]; exact e1
    refine q_istore hG rfl rfl ?_
    refine q_aload_n hG rfl rfl ?_
    refine q_aload_n hG rfl rfl ?_
    refine q_iload hG rfl rfl ?_
    refine q_iconst (v := 1) hG rfl rfl ?_
    refine q_iadd hG rfl ?_
    refine q_iald9v (v := x1) hG rfl h20 ⟨by omega, by omega, by omega⟩ (by rw [show ((i : Int) + 1).toNat = i + 1 by omega]; exact e1) ?_
    refine q_callV6 hG rfl rfl rfl h178 (s_R_removeConstraint hm9 sM.1 hW hq r1 (fun b1 K k1 k2 k3 => ?_) (fun p2 b1 K k1 k2 k3 => ?_))
    · exfalso
      exact b1 p a1.1 a1.2.1
    · have ep := fst_u a1 b1
      subst ep
      have ht9 := k2
      have sM2 := sM.chg k1 k3
      have g := k3.fM
      refine q_istore hG rfl rfl ?_
      refine q_aload_n hG rfl rfl ?_
      refine q_callV6 hG rfl rfl rfl h178 (s_R_thrown hm9 ht9 ?_)
      refine q_iload hG rfl rfl ?_
      refine q_icmp_eq hG rfl ⟨by omega, by omega⟩ ⟨by omega, by omega⟩ (fun _ => ?_) (fun q => absurd (by decide) q)
      refine q_iload hG rfl rfl ?_
      refine q_if_ne hG rfl ⟨by omega, by omega⟩ (fun q => absurd q (by decide)) (fun _ => ?_)
      refine q_aload_n hG rfl rfl ?_
      refine q_iconst (v := 0) hG rfl rfl ?_
      refine q_laldX hG rfl hk9 hj9 ?_
      refine q_iload hG rfl rfl ?_
      refine q_i2l hG rfl ?_
      refine q_lcmp_same hG rfl ?_
      refine q_if_eq hG rfl ⟨by omega, by omega⟩ (fun _ => ?_) (fun q => absurd (by decide) q)
      refine q_goto hG rfl ?_
      exact hend _ _ _ _ _ (INV.of hb hKI u sC sM2 f g (hWI.chg ((outC_W (kd := 0) (b := 0) (c := 0) hW (v := 5) (by omega) (oc5_o a1)).up (by omega))))
set_option maxRecDepth 100000 in
theorem lc_22 {d : Nat} {Post : Out → HP → Prop} {G : Nat → LV → List Value → HP → Prop} (hG : Cl (Sp (d + 21)) md_L_law Post G) {N L : Nat} {B : HP} {I : IM} (hI : INV N L B I) (hN : N ≤ 512) {i : Nat} (hi : i + 5 ≤ L) (hL : L ≤ 2560) (hend : ∀ (B2 : HP) (K : IM) (l6 l7 l8 : Option Value), INV (N + 1) L B2 K → G 2835 [some (.ref (BIG + 20)), some (.ref 0), some (.ref 178), some (.ref 184), some (.ref 185), some (.int (i3 (i : Int))), l6, l7, l8] [] (wI B2 K)) (l6 l7 l8 : Option Value) : G 1498 [some (.ref (BIG + 20)), some (.ref 0), some (.ref 178), some (.ref 184), some (.ref 185), some (.int (i3 (i : Int))), l6, l7, l8] [] (wI B I) := by
  obtain ⟨R, c, h, sv, SR, eo, why, det, cau, o, l, hb, hKI, sC0, sM0, hWI⟩ := hI
  have hb0 := hb
  obtain ⟨hX, hm, hk4, hd4, h20, hn1, hw1, hv0⟩ := hb0
  have h0 := hX.1
  have h178 := hm.1
  have hW := hWI.1
  have w0 := hW.1
  have w1 := hW.2.1
  have hq : 20000 * (N : Int) ≤ 2000000000 := by omega
  have hC := sC0.1
  have hR := hC.1
  have hrW := hWI.2.2.2.1
  refine q_aload_n hG rfl rfl ?_
  refine q_aload_n hG rfl rfl ?_
  refine q_callS0 hG rfl rfl rfl (s_L_pass h0 (fun P y z1 => s_P_pass hX hC hW hq (fun a1 J c1 c2 => y _ _ _ hk4 ?_) (fun p a1 J c1 c2 => z1 _ _ ?_)))
  · have u : upB B (sJ B 184 0 (i3 ((paR R 1).1.2.2)).toInt64) := (upB.refl B).J (i3 ((paR R 1).1.2.2)).toInt64
    have hj9 : hJ (sJ B 184 0 (i3 ((paR R 1).1.2.2)).toInt64) 184 0 = (i3 ((paR R 1).1.2.2)).toInt64 := sJ_at B _
    have f : frX I J := fr158 c2
    have sC := sC0.chg c1 c2
    have sM := sM0.cls f
    have hm9 := hm.cg u.cg
    have h178 := (u.1 178).trans h178
    have h20 := (u.1 (BIG + 20)).trans h20
    have hk9 := (u.1 184).trans hk4
    have hd9 := (u.1 185).trans hd4
    refine q_istore hG rfl rfl ?_
    refine q_aload_n hG rfl rfl ?_
    refine q_callV6 hG rfl rfl rfl h178 (s_R_pass hm9 sM.1 hW hq (fun p2 b1 K k1 k2 k3 => ?_) (fun b1 K k1 k2 k3 => ?_))
    · exfalso
      rw [a1] at b1; cases b1
    · have ht9 := k2
      have sM2 := sM.chg k1 k3
      have g := k3.fM
      refine q_istore hG rfl rfl ?_
      refine q_aload_n hG rfl rfl ?_
      refine q_callV6 hG rfl rfl rfl h178 (s_R_thrown hm9 ht9 ?_)
      refine q_iload hG rfl rfl ?_
      refine q_icmp_eq hG rfl ⟨by omega, by omega⟩ ⟨by omega, by omega⟩ (fun _ => ?_) (fun q => absurd (by decide) q)
      refine q_iload hG rfl rfl ?_
      refine q_if_ne hG rfl ⟨by omega, by omega⟩ (fun q => absurd q (by decide)) (fun _ => ?_)
      refine q_aload_n hG rfl rfl ?_
      refine q_iconst (v := 0) hG rfl rfl ?_
      refine q_laldX hG rfl hk9 hj9 ?_
      refine q_iload hG rfl rfl ?_
      refine q_i2l hG rfl ?_
      refine q_lcmp_same hG rfl ?_
      refine q_if_eq hG rfl ⟨by omega, by omega⟩ (fun _ => ?_) (fun q => absurd (by decide) q)
      refine q_goto hG rfl ?_
      exact hend _ _ _ _ _ (INV.of hb hKI u sC sM2 f g (hWI.chg ((outC_W (kd := 0) (a := 0) (b := 0) (c := 0) hW (v := 6) (by omega) (oc6_o a1)).up (by omega))))
  · have u : upB B (junk B 6) := upB.junk B
    have f : frX I J := fr158 c2
    have sC := sC0.chg c1 c2
    have sM := sM0.cls f
    have hm9 := hm.cg u.cg
    have h178 := (u.1 178).trans h178
    have h20 := (u.1 (BIG + 20)).trans h20
    have hk9 := (u.1 184).trans hk4
    have hd9 := (u.1 185).trans hd4
    refine q_istore hG rfl rfl ?_
    refine q_aload_n hG rfl rfl ?_
    refine q_callV6 hG rfl rfl rfl h178 (s_R_pass hm9 sM.1 hW hq (fun p2 b1 K k1 k2 k3 => ?_) (fun b1 K k1 k2 k3 => ?_))
    · have ep := Option.some.inj (a1.symm.trans b1)
      subst ep
      have ht9 := k2
      have sM2 := sM.chg k1 k3
      have g := k3.fM
      refine q_istore hG rfl rfl ?_
      refine q_aload_n hG rfl rfl ?_
      refine q_callV6 hG rfl rfl rfl h178 (s_R_thrown hm9 ht9 ?_)
      refine q_iload hG rfl rfl ?_
      refine q_icmp_eq hG rfl ⟨by omega, by omega⟩ ⟨by omega, by omega⟩ (fun _ => ?_) (fun q => absurd (by decide) q)
      refine q_iload hG rfl rfl ?_
      refine q_if_ne hG rfl ⟨by omega, by omega⟩ (fun _ => ?_) (fun q => absurd (by decide) q)
      refine q_goto hG rfl ?_
      exact hend _ _ _ _ _ (INV.of hb hKI u sC sM2 f g (hWI.rej ⟨by decide, by decide⟩))
    · exfalso
      rw [a1] at b1; cases b1
set_option maxRecDepth 100000 in
theorem lc_23 {d : Nat} {Post : Out → HP → Prop} {G : Nat → LV → List Value → HP → Prop} (hG : Cl (Sp (d + 21)) md_L_law Post G) {N L : Nat} {B : HP} {I : IM} (hI : INV N L B I) (hN : N ≤ 512) {i : Nat} (hi : i + 5 ≤ L) (hL : L ≤ 2560) (hend : ∀ (B2 : HP) (K : IM) (l6 l7 l8 : Option Value), INV (N + 1) L B2 K → G 2835 [some (.ref (BIG + 20)), some (.ref 0), some (.ref 178), some (.ref 184), some (.ref 185), some (.int (i3 (i : Int))), l6, l7, l8] [] (wI B2 K)) (l6 l7 l8 : Option Value) : G 1542 [some (.ref (BIG + 20)), some (.ref 0), some (.ref 178), some (.ref 184), some (.ref 185), some (.int (i3 (i : Int))), l6, l7, l8] [] (wI B I) := by
  obtain ⟨R, c, h, sv, SR, eo, why, det, cau, o, l, hb, hKI, sC0, sM0, hWI⟩ := hI
  have hb0 := hb
  obtain ⟨hX, hm, hk4, hd4, h20, hn1, hw1, hv0⟩ := hb0
  have h0 := hX.1
  have h178 := hm.1
  have hW := hWI.1
  have w0 := hW.1
  have w1 := hW.2.1
  have hq : 20000 * (N : Int) ≤ 2000000000 := by omega
  have hC := sC0.1
  have hR := hC.1
  have hrW := hWI.2.2.2.1
  refine q_aload_n hG rfl rfl ?_
  refine q_aload_n hG rfl rfl ?_
  refine q_callS0 hG rfl rfl rfl (s_L_settle h0 (fun P y z1 => s_P_settle hX hC hW hq (fun a1 J c1 c2 => y _ _ _ hk4 ?_) (fun p a1 J c1 c2 => z1 _ _ ?_)))
  · have u : upB B (sJ B 184 0 (i3 ((stR2 R 1).2.2)).toInt64) := (upB.refl B).J (i3 ((stR2 R 1).2.2)).toInt64
    have hj9 : hJ (sJ B 184 0 (i3 ((stR2 R 1).2.2)).toInt64) 184 0 = (i3 ((stR2 R 1).2.2)).toInt64 := sJ_at B _
    have f : frX I J := fr158 c2
    have sC := sC0.chg c1 c2
    have sM := sM0.cls f
    have hm9 := hm.cg u.cg
    have h178 := (u.1 178).trans h178
    have h20 := (u.1 (BIG + 20)).trans h20
    have hk9 := (u.1 184).trans hk4
    have hd9 := (u.1 185).trans hd4
    refine q_istore hG rfl rfl ?_
    refine q_aload_n hG rfl rfl ?_
    refine q_callV6 hG rfl rfl rfl h178 (s_R_settle hm9 sM.1 hW hq (fun p2 b1 K k1 k2 k3 => ?_) (fun b1 K k1 k2 k3 => ?_))
    · exfalso
      rw [a1] at b1; cases b1
    · have ht9 := k2
      have sM2 := sM.chg k1 k3
      have g := k3.fM
      refine q_istore hG rfl rfl ?_
      refine q_aload_n hG rfl rfl ?_
      refine q_callV6 hG rfl rfl rfl h178 (s_R_thrown hm9 ht9 ?_)
      refine q_iload hG rfl rfl ?_
      refine q_icmp_eq hG rfl ⟨by omega, by omega⟩ ⟨by omega, by omega⟩ (fun _ => ?_) (fun q => absurd (by decide) q)
      refine q_iload hG rfl rfl ?_
      refine q_if_ne hG rfl ⟨by omega, by omega⟩ (fun q => absurd q (by decide)) (fun _ => ?_)
      refine q_aload_n hG rfl rfl ?_
      refine q_iconst (v := 0) hG rfl rfl ?_
      refine q_laldX hG rfl hk9 hj9 ?_
      refine q_iload hG rfl rfl ?_
      refine q_i2l hG rfl ?_
      refine q_lcmp_same hG rfl ?_
      refine q_if_eq hG rfl ⟨by omega, by omega⟩ (fun _ => ?_) (fun q => absurd (by decide) q)
      refine q_goto hG rfl ?_
      exact hend _ _ _ _ _ (INV.of hb hKI u sC sM2 f g (hWI.chg ((outC_W (kd := 0) (a := 0) (b := 0) (c := 0) hW (v := 7) (by omega) (oc7_o a1)).up (by omega))))
  · have u : upB B (junk B 6) := upB.junk B
    have f : frX I J := fr158 c2
    have sC := sC0.chg c1 c2
    have sM := sM0.cls f
    have hm9 := hm.cg u.cg
    have h178 := (u.1 178).trans h178
    have h20 := (u.1 (BIG + 20)).trans h20
    have hk9 := (u.1 184).trans hk4
    have hd9 := (u.1 185).trans hd4
    refine q_istore hG rfl rfl ?_
    refine q_aload_n hG rfl rfl ?_
    refine q_callV6 hG rfl rfl rfl h178 (s_R_settle hm9 sM.1 hW hq (fun p2 b1 K k1 k2 k3 => ?_) (fun b1 K k1 k2 k3 => ?_))
    · have ep := Option.some.inj (a1.symm.trans b1)
      subst ep
      have ht9 := k2
      have sM2 := sM.chg k1 k3
      have g := k3.fM
      refine q_istore hG rfl rfl ?_
      refine q_aload_n hG rfl rfl ?_
      refine q_callV6 hG rfl rfl rfl h178 (s_R_thrown hm9 ht9 ?_)
      refine q_iload hG rfl rfl ?_
      refine q_icmp_eq hG rfl ⟨by omega, by omega⟩ ⟨by omega, by omega⟩ (fun _ => ?_) (fun q => absurd (by decide) q)
      refine q_iload hG rfl rfl ?_
      refine q_if_ne hG rfl ⟨by omega, by omega⟩ (fun _ => ?_) (fun q => absurd (by decide) q)
      refine q_goto hG rfl ?_
      exact hend _ _ _ _ _ (INV.of hb hKI u sC sM2 f g (hWI.rej ⟨by decide, by decide⟩))
    · exfalso
      rw [a1] at b1; cases b1
set_option maxRecDepth 100000 in
theorem lc_51 {d : Nat} {Post : Out → HP → Prop} {G : Nat → LV → List Value → HP → Prop} (hG : Cl (Sp (d + 21)) md_L_law Post G) {N L : Nat} {B : HP} {I : IM} (hI : INV N L B I) (hN : N ≤ 512) {i : Nat} (hi : i + 5 ≤ L) (hL : L ≤ 2560) (hend : ∀ (B2 : HP) (K : IM) (l6 l7 l8 : Option Value), INV (N + 1) L B2 K → G 2835 [some (.ref (BIG + 20)), some (.ref 0), some (.ref 178), some (.ref 184), some (.ref 185), some (.int (i3 (i : Int))), l6, l7, l8] [] (wI B2 K)) (l6 l7 l8 : Option Value) : G 2734 [some (.ref (BIG + 20)), some (.ref 0), some (.ref 178), some (.ref 184), some (.ref 185), some (.int (i3 (i : Int))), l6, l7, l8] [] (wI B I) := by
  obtain ⟨R, c, h, sv, SR, eo, why, det, cau, o, l, hb, hKI, sC0, sM0, hWI⟩ := hI
  have hb0 := hb
  obtain ⟨hX, hm, hk4, hd4, h20, hn1, hw1, hv0⟩ := hb0
  have h0 := hX.1
  have h178 := hm.1
  have hW := hWI.1
  have w0 := hW.1
  have w1 := hW.2.1
  have hq : 20000 * (N : Int) ≤ 2000000000 := by omega
  have hC := sC0.1
  have hR := hC.1
  have hrW := hWI.2.2.2.1
  refine q_aload_n hG rfl rfl ?_
  refine q_aload_n hG rfl rfl ?_
  refine q_callS0 hG rfl rfl rfl (s_L_undo h0 (fun P y z4 => s_P_undo hX hC hW (fun hc => (hWI.2.1 0 (by omega)).2.1.2) (fun a1 => z4 _ _ ?_) (fun a1 J c1 c2 => y _ _ _ hk4 ?_)))
  · have u : upB B (junk B 6) := upB.junk B
    have f : frX I I := frX.refl I
    have sC := sC0
    have sM := sM0
    have hm9 := hm.cg u.cg
    have h178 := (u.1 178).trans h178
    have h20 := (u.1 (BIG + 20)).trans h20
    have hk9 := (u.1 184).trans hk4
    have hd9 := (u.1 185).trans hd4
    refine q_istore hG rfl rfl ?_
    refine q_aload_n hG rfl rfl ?_
    refine q_callV6 hG rfl rfl rfl h178 (s_R_undo (q := 0) hm9 sM.1 (fun b1 K k1 k2 k3 => ?_) (fun b1 => ?_))
    · exfalso
      first | contradiction | omega
    · have ht9 : st I 178 0 1 178 0 = 1 := st_same _ _ _ _
      have sM2 := sM.t 1
      have g : frM I (st I 178 0 1) := ((sth.refl I 178).t 1).fM
      refine q_istore hG rfl rfl ?_
      refine q_aload_n hG rfl rfl ?_
      refine q_callV6 hG rfl rfl rfl h178 (s_R_thrown hm9 ht9 ?_)
      refine q_iload hG rfl rfl ?_
      refine q_icmp_eq hG rfl ⟨by omega, by omega⟩ ⟨by omega, by omega⟩ (fun _ => ?_) (fun q => absurd (by decide) q)
      refine q_iload hG rfl rfl ?_
      refine q_if_ne hG rfl ⟨by omega, by omega⟩ (fun _ => ?_) (fun q => absurd (by decide) q)
      refine q_goto hG rfl ?_
      exact hend _ _ _ _ _ (INV.of hb hKI u sC sM2 f g (hWI.up))
  · have u : upB B (sJ B 184 0 (i3 (c - 1)).toInt64) := (upB.refl B).J (i3 (c - 1)).toInt64
    have hj9 : hJ (sJ B 184 0 (i3 (c - 1)).toInt64) 184 0 = (i3 (c - 1)).toInt64 := sJ_at B _
    have f : frX I J := fr158 c2
    have sC := sC0.chg c1 c2
    have sM := sM0.cls f
    have hm9 := hm.cg u.cg
    have h178 := (u.1 178).trans h178
    have h20 := (u.1 (BIG + 20)).trans h20
    have hk9 := (u.1 184).trans hk4
    have hd9 := (u.1 185).trans hd4
    refine q_istore hG rfl rfl ?_
    refine q_aload_n hG rfl rfl ?_
    refine q_callV6 hG rfl rfl rfl h178 (s_R_undo (q := 0) hm9 sM.1 (fun b1 K k1 k2 k3 => ?_) (fun b1 => ?_))
    · have ht9 := k2
      have sM2 := sM.chg k1 k3
      have g := k3.fM
      refine q_istore hG rfl rfl ?_
      refine q_aload_n hG rfl rfl ?_
      refine q_callV6 hG rfl rfl rfl h178 (s_R_thrown hm9 ht9 ?_)
      refine q_iload hG rfl rfl ?_
      refine q_icmp_eq hG rfl ⟨by omega, by omega⟩ ⟨by omega, by omega⟩ (fun _ => ?_) (fun q => absurd (by decide) q)
      refine q_iload hG rfl rfl ?_
      refine q_if_ne hG rfl ⟨by omega, by omega⟩ (fun q => absurd q (by decide)) (fun _ => ?_)
      refine q_aload_n hG rfl rfl ?_
      refine q_iconst (v := 0) hG rfl rfl ?_
      refine q_laldX hG rfl hk9 hj9 ?_
      refine q_iload hG rfl rfl ?_
      refine q_i2l hG rfl ?_
      refine q_lcmp_same hG rfl ?_
      refine q_if_eq hG rfl ⟨by omega, by omega⟩ (fun _ => ?_) (fun q => absurd (by decide) q)
      refine q_goto hG rfl ?_
      exact hend _ _ _ _ _ (INV.of hb hKI u sC sM2 f g (hWI.undo a1))
    · exfalso
      first | contradiction | omega
set_option maxRecDepth 100000 in
theorem lc_52 {d : Nat} {Post : Out → HP → Prop} {G : Nat → LV → List Value → HP → Prop} (hG : Cl (Sp (d + 21)) md_L_law Post G) {N L : Nat} {B : HP} {I : IM} (hI : INV N L B I) (hN : N ≤ 512) {i : Nat} (hi : i + 5 ≤ L) (hL : L ≤ 2560) (hend : ∀ (B2 : HP) (K : IM) (l6 l7 l8 : Option Value), INV (N + 1) L B2 K → G 2835 [some (.ref (BIG + 20)), some (.ref 0), some (.ref 178), some (.ref 184), some (.ref 185), some (.int (i3 (i : Int))), l6, l7, l8] [] (wI B2 K)) (l6 l7 l8 : Option Value) : G 2778 [some (.ref (BIG + 20)), some (.ref 0), some (.ref 178), some (.ref 184), some (.ref 185), some (.int (i3 (i : Int))), l6, l7, l8] [] (wI B I) := by
  obtain ⟨R, c, h, sv, SR, eo, why, det, cau, o, l, hb, hKI, sC0, sM0, hWI⟩ := hI
  have hb0 := hb
  obtain ⟨hX, hm, hk4, hd4, h20, hn1, hw1, hv0⟩ := hb0
  have h0 := hX.1
  have h178 := hm.1
  have hW := hWI.1
  have w0 := hW.1
  have w1 := hW.2.1
  have hq : 20000 * (N : Int) ≤ 2000000000 := by omega
  have hC := sC0.1
  have hR := hC.1
  have hrW := hWI.2.2.2.1
  refine q_aload_n hG rfl rfl ?_
  refine q_callV6 hG rfl rfl rfl h0 (s_P_save hX hC hW (fun J c1 c2 => ?_))
  have u : upB B B := upB.refl B
  have f : frX I J := fr158 c2
  have sC := sC0.chg c1 c2
  have sM := sM0.cls f
  have hm9 := hm.cg u.cg
  have h178 := (u.1 178).trans h178
  have h20 := (u.1 (BIG + 20)).trans h20
  have hk9 := (u.1 184).trans hk4
  have hd9 := (u.1 185).trans hd4
  refine q_aload_n hG rfl rfl ?_
  refine q_callV6 hG rfl rfl rfl h178 (s_R_save (q := 0) hm9 sM.1 (fun K k1 k2 k3 => ?_))
  have ht9 := k2
  have sM2 := sM.chg k1 k3
  have g := k3.fM
  refine q_icmp_same hG rfl ?_
  exact hend _ _ _ _ _ (INV.of hb hKI u sC sM2 f g (hWI.save))
set_option maxRecDepth 100000 in
theorem lc_53 {d : Nat} {Post : Out → HP → Prop} {G : Nat → LV → List Value → HP → Prop} (hG : Cl (Sp (d + 21)) md_L_law Post G) {N L : Nat} {B : HP} {I : IM} (hI : INV N L B I) (hN : N ≤ 512) {i : Nat} (hi : i + 5 ≤ L) (hL : L ≤ 2560) (hend : ∀ (B2 : HP) (K : IM) (l6 l7 l8 : Option Value), INV (N + 1) L B2 K → G 2835 [some (.ref (BIG + 20)), some (.ref 0), some (.ref 178), some (.ref 184), some (.ref 185), some (.int (i3 (i : Int))), l6, l7, l8] [] (wI B2 K)) (l6 l7 l8 : Option Value) : G 2791 [some (.ref (BIG + 20)), some (.ref 0), some (.ref 178), some (.ref 184), some (.ref 185), some (.int (i3 (i : Int))), l6, l7, l8] [] (wI B I) := by
  obtain ⟨R, c, h, sv, SR, eo, why, det, cau, o, l, hb, hKI, sC0, sM0, hWI⟩ := hI
  have hb0 := hb
  obtain ⟨hX, hm, hk4, hd4, h20, hn1, hw1, hv0⟩ := hb0
  have h0 := hX.1
  have h178 := hm.1
  have hW := hWI.1
  have w0 := hW.1
  have w1 := hW.2.1
  have hq : 20000 * (N : Int) ≤ 2000000000 := by omega
  have hC := sC0.1
  have hR := hC.1
  have hrW := hWI.2.2.2.1
  refine q_aload_n hG rfl rfl ?_
  refine q_aload_n hG rfl rfl ?_
  refine q_callS0 hG rfl rfl rfl (s_L_restoreSnapshot h0 (fun P y z4 => s_P_restore hX hC hW (fun hs => (hWI.2.2.1 hs).2.1.2) (fun a1 => z4 _ _ ?_) (fun a1 J c1 c2 => y _ _ _ hk4 ?_)))
  · have u : upB B (junk B 6) := upB.junk B
    have f : frX I I := frX.refl I
    have sC := sC0
    have sM := sM0
    have hm9 := hm.cg u.cg
    have h178 := (u.1 178).trans h178
    have h20 := (u.1 (BIG + 20)).trans h20
    have hk9 := (u.1 184).trans hk4
    have hd9 := (u.1 185).trans hd4
    refine q_istore hG rfl rfl ?_
    refine q_aload_n hG rfl rfl ?_
    refine q_callV6 hG rfl rfl rfl h178 (s_R_restore (q := 0) hm9 sM.1 (fun b1 K k1 k2 k3 => ?_) (fun b1 => ?_))
    · exfalso
      first | contradiction | omega
    · have ht9 : st I 178 0 1 178 0 = 1 := st_same _ _ _ _
      have sM2 := sM.t 1
      have g : frM I (st I 178 0 1) := ((sth.refl I 178).t 1).fM
      refine q_istore hG rfl rfl ?_
      refine q_aload_n hG rfl rfl ?_
      refine q_callV6 hG rfl rfl rfl h178 (s_R_thrown hm9 ht9 ?_)
      refine q_iload hG rfl rfl ?_
      refine q_icmp_eq hG rfl ⟨by omega, by omega⟩ ⟨by omega, by omega⟩ (fun _ => ?_) (fun q => absurd (by decide) q)
      refine q_iload hG rfl rfl ?_
      refine q_if_ne hG rfl ⟨by omega, by omega⟩ (fun _ => ?_) (fun q => absurd (by decide) q)
      refine q_goto hG rfl ?_
      exact hend _ _ _ _ _ (INV.of hb hKI u sC sM2 f g (hWI.up))
  · have u : upB B (sJ B 184 0 (i3 (SR 0)).toInt64) := (upB.refl B).J (i3 (SR 0)).toInt64
    have hj9 : hJ (sJ B 184 0 (i3 (SR 0)).toInt64) 184 0 = (i3 (SR 0)).toInt64 := sJ_at B _
    have f : frX I J := fr158 c2
    have sC := sC0.chg c1 c2
    have sM := sM0.cls f
    have hm9 := hm.cg u.cg
    have h178 := (u.1 178).trans h178
    have h20 := (u.1 (BIG + 20)).trans h20
    have hk9 := (u.1 184).trans hk4
    have hd9 := (u.1 185).trans hd4
    refine q_istore hG rfl rfl ?_
    refine q_aload_n hG rfl rfl ?_
    refine q_callV6 hG rfl rfl rfl h178 (s_R_restore (q := 0) hm9 sM.1 (fun b1 K k1 k2 k3 => ?_) (fun b1 => ?_))
    · have ht9 := k2
      have sM2 := sM.chg k1 k3
      have g := k3.fM
      refine q_istore hG rfl rfl ?_
      refine q_aload_n hG rfl rfl ?_
      refine q_callV6 hG rfl rfl rfl h178 (s_R_thrown hm9 ht9 ?_)
      refine q_iload hG rfl rfl ?_
      refine q_icmp_eq hG rfl ⟨by omega, by omega⟩ ⟨by omega, by omega⟩ (fun _ => ?_) (fun q => absurd (by decide) q)
      refine q_iload hG rfl rfl ?_
      refine q_if_ne hG rfl ⟨by omega, by omega⟩ (fun q => absurd q (by decide)) (fun _ => ?_)
      refine q_aload_n hG rfl rfl ?_
      refine q_iconst (v := 0) hG rfl rfl ?_
      refine q_laldX hG rfl hk9 hj9 ?_
      refine q_iload hG rfl rfl ?_
      refine q_i2l hG rfl ?_
      refine q_lcmp_same hG rfl ?_
      refine q_if_eq hG rfl ⟨by omega, by omega⟩ (fun _ => ?_) (fun q => absurd (by decide) q)
      refine q_goto hG rfl ?_
      exact hend _ _ _ _ _ (INV.of hb hKI u sC sM2 f g (hWI.rest a1))
    · exfalso
      first | contradiction | omega
