/-! peace, shares, texts and scripts: both sides answer alike -/
theorem INV.app {N L : Nat} {B B2 : HP} {I J K : IM} {R : RW} {c : Int} {h : Nat → RW} {sv : Int} {SR : RW} {eo why det cau : Int} {o l l2 : List Int} (b : BI N L B) (k : KI B I) (fx : fxB B B2) (q1 : hn B ≤ hn B2 ∧ hn B2 ≤ hn B + 1) (q2 : hw B ≤ hw B2 ∧ hw B2 ≤ hw B + 70) (v64 : Int64) {v2 n2 : Nat} (tt : txS B2 J v2 n2 l2) (s : SC B I R c h sv SR eo why det cau o l) (hr : ∀ a, a ≤ 159 → J a = I a) (m : SM K R c h sv SR eo why det cau o l2) (f : frX I J) (g : frM J K) (q : WI (N + 1) R c h sv SR eo why det cau o l2) : INV (N + 1) L (sJ B2 184 0 v64) K := by
  obtain ⟨b1, b2, b3, b4, b5, b6, b7, b8⟩ := b
  have hbg : BIG = 1000000000 := rfl
  have gr : ∀ a, a ≤ 159 → K a = I a := fun a ha => (g a (by omega)).trans (hr a ha)
  refine ⟨R, c, h, sv, SR, eo, why, det, cau, o, l2, ⟨b1.cg fx.cg, b2.cg fx.cg, (fx 184 (by omega)).1.trans b3, (fx 185 (by omega)).1.trans b4, (fx (BIG + 20) (by omega)).1.trans b5, ?_, ?_, ?_⟩, k.mv (fun a ha => (fx a (Or.inr ha)).1) (fun a i ha => (fx a (Or.inr ha)).2.1 i (by omega)) (fun a ha => (g a (by omega)).trans (f a (Or.inr ha))), ⟨s.1.row (fun a p => gr a (by omega)), s.2.1.row (gr 158 (by omega)) (gr 159 (by omega)), v2, n2, tt.row (fun a p => g a (by omega))⟩, m, q⟩
  · show 186 ≤ hn B2 ∧ hn B2 ≤ 186 + (N + 1)
    omega
  · show hw B2 ≤ 8000 + 70 * (N + 1)
    omega
  · intro k hk
    have e : domJ (hJ (sJ B2 184 0 v64)) 178 0 k = domJ (hJ B) 178 0 k := by
      show up2 (hJ B2) 184 0 v64 (178 + 2) (6 * 0 + k) = hJ B (178 + 2) (6 * 0 + k)
      rw [up2_ne (by omega), (fx 180 (by omega)).2.2.1]
    rw [e]
    exact b8 k hk
theorem WI.syn {N : Nat} {R : RW} {c : Int} {h : Nat → RW} {sv : Int} {SR : RW} {eo why det cau : Int} {o l : List Int} (q : WI N R c h sv SR eo why det cau o l) {e : Int} (he : r32 e) : WI (N + 1) R c h sv SR e why det cau o l := by
  obtain ⟨q1, q2, q3, q4, q5⟩ := q.up
  exact ⟨q1, q2, q3, ⟨he, q4.2⟩, q5⟩
set_option maxRecDepth 100000 in
theorem lc_30 {d : Nat} {Post : Out → HP → Prop} {G : Nat → LV → List Value → HP → Prop} (hG : Cl (Sp (d + 21)) md_L_law Post G) {N L : Nat} {B : HP} {I : IM} (hI : INV N L B I) (hN : N ≤ 512) {i : Nat} (hi : i + 5 ≤ L) (hL : L ≤ 2560) (hend : ∀ (B2 : HP) (K : IM) (l6 l7 l8 : Option Value), INV (N + 1) L B2 K → G 2835 [some (.ref (BIG + 20)), some (.ref 0), some (.ref 178), some (.ref 184), some (.ref 185), some (.int (i3 (i : Int))), l6, l7, l8] [] (wI B2 K)) (l6 l7 l8 : Option Value) : G 1781 [some (.ref (BIG + 20)), some (.ref 0), some (.ref 178), some (.ref 184), some (.ref 185), some (.int (i3 (i : Int))), l6, l7, l8] [] (wI B I) := by
  obtain ⟨R, c, h, sv, SR, eo, why, det, cau, o, l, hb, hKI, sC0, sM0, hWI⟩ := hI
  have hb0 := hb
  obtain ⟨hX, hm, hk4, hd4, h20, hn1, hw1, hv0⟩ := hb0
  have h0 := hX.1
  have h178 := hm.1
  have hW := hWI.1
  have w0 := hW.1
  have w1 := hW.2.1
  have hq : 20000 * (N : Int) ≤ 2000000000 := by omega
  have hC := sC0.1
  have hR := hC.1
  have hrW := hWI.2.2.2.1
  refine q_aload_n hG rfl rfl ?_
  refine q_callV6 hG rfl rfl rfl h0 (s_X_hasPeace hX hR hW hq (fun k hk => (hC.2.2.2.2.2.2.2.2 k hk).2) (fun J bc a1 c1 => ?_) (fun J a1 c1 => ?_))
  · have u : upB B B := upB.refl B
    have f : frX I J := trf.X c1
    have sC := sC0.trf c1
    have sM := sM0.cls f
    have hm9 := hm.cg u.cg
    have h178 := (u.1 178).trans h178
    have h20 := (u.1 (BIG + 20)).trans h20
    have hk9 := (u.1 184).trans hk4
    have hd9 := (u.1 185).trans hd4
    refine q_aload_n hG rfl rfl ?_
    refine q_callV6 hG rfl rfl rfl h178 (s_R_hasPeace (B := B) (Js := hJ B) hm9 (fun j hj => sM.1.1.at j hj) hW (u.2.2.2.2 hv0) (fun Ls j1 j2 b1 b2 => ?_) (fun Ls j1 j2 b1 => ?_))
    · have ht9 : st J 178 0 0 178 0 = 0 := st_same _ _ _ _
      have sM2 := sM.t 0
      have g : frM J (st J 178 0 0) := ((sth.refl J 178).t 0).fM
      refine q_icmp_eq hG rfl ⟨by omega, by omega⟩ ⟨by omega, by omega⟩ (fun _ => ?_) (fun q => absurd (by decide) q)
      exact hend _ _ _ _ _ (INV.of hb hKI (u.L j2) sC sM2 f g (hWI.up))
    · exfalso
      exact b1 _ a1.1
  · have u : upB B B := upB.refl B
    have f : frX I J := trf.X c1
    have sC := sC0.trf c1
    have sM := sM0.cls f
    have hm9 := hm.cg u.cg
    have h178 := (u.1 178).trans h178
    have h20 := (u.1 (BIG + 20)).trans h20
    have hk9 := (u.1 184).trans hk4
    have hd9 := (u.1 185).trans hd4
    refine q_aload_n hG rfl rfl ?_
    refine q_callV6 hG rfl rfl rfl h178 (s_R_hasPeace (B := B) (Js := hJ B) hm9 (fun j hj => sM.1.1.at j hj) hW (u.2.2.2.2 hv0) (fun Ls j1 j2 b1 b2 => ?_) (fun Ls j1 j2 b1 => ?_))
    · exfalso
      obtain ⟨be, hb2⟩ := (ex_pe hW).mp b2; exact a1 be hb2
    · have ht9 : st J 178 0 0 178 0 = 0 := st_same _ _ _ _
      have sM2 := sM.t 0
      have g : frM J (st J 178 0 0) := ((sth.refl J 178).t 0).fM
      refine q_icmp_eq hG rfl ⟨by omega, by omega⟩ ⟨by omega, by omega⟩ (fun _ => ?_) (fun q => absurd (by decide) q)
      exact hend _ _ _ _ _ (INV.of hb hKI (u.L j2) sC sM2 f g (hWI.up))
set_option maxRecDepth 100000 in
theorem lc_31 {d : Nat} {Post : Out → HP → Prop} {G : Nat → LV → List Value → HP → Prop} (hG : Cl (Sp (d + 21)) md_L_law Post G) {N L : Nat} {B : HP} {I : IM} (hI : INV N L B I) (hN : N ≤ 512) {i : Nat} (hi : i + 5 ≤ L) (hL : L ≤ 2560) (hend : ∀ (B2 : HP) (K : IM) (l6 l7 l8 : Option Value), INV (N + 1) L B2 K → G 2835 [some (.ref (BIG + 20)), some (.ref 0), some (.ref 178), some (.ref 184), some (.ref 185), some (.int (i3 (i : Int))), l6, l7, l8] [] (wI B2 K)) (l6 l7 l8 : Option Value) : G 1794 [some (.ref (BIG + 20)), some (.ref 0), some (.ref 178), some (.ref 184), some (.ref 185), some (.int (i3 (i : Int))), l6, l7, l8] [] (wI B I) := by
  obtain ⟨R, c, h, sv, SR, eo, why, det, cau, o, l, hb, hKI, sC0, sM0, hWI⟩ := hI
  have hb0 := hb
  obtain ⟨hX, hm, hk4, hd4, h20, hn1, hw1, hv0⟩ := hb0
  have h0 := hX.1
  have h178 := hm.1
  have hW := hWI.1
  have w0 := hW.1
  have w1 := hW.2.1
  have hq : 20000 * (N : Int) ≤ 2000000000 := by omega
  have hC := sC0.1
  have hR := hC.1
  have hrW := hWI.2.2.2.1
  obtain ⟨x1, e1⟩ : ∃ v, I (BIG + 20) (i + 1) = v := ⟨_, rfl⟩
  have r1 : r32 x1 := e1 ▸ hKI.2.2.2 (i + 1)
  have ra1 := r1.1
  have rb1 := r1.2
  refine q_aload_n hG rfl rfl ?_
  refine q_aload_n hG rfl rfl ?_
  refine q_iload hG rfl rfl ?_
  refine q_iconst (v := 1) hG rfl rfl ?_
  refine q_iadd hG rfl ?_
  refine q_iald9v (v := x1) hG rfl h20 ⟨by omega, by omega, by omega⟩ (by rw [show ((i : Int) + 1).toNat = i + 1 by omega]; exact e1) ?_
  refine q_aload_n hG rfl rfl ?_
  refine q_callS0 hG rfl rfl rfl (s_L_peaceHeight h0 (fun P y z2 z3 => s_X_peaceHeight hX hR hW hq r1 (fun k hk => (hC.2.2.2.2.2.2.2.2 k hk).2) (fun a1 => z2 _ _ ?_) (fun a1 J bc a2 c1 => y _ _ _ hk4 ?_) (fun a1 J a2 c1 => z3 _ _ ?_)))
  · have u : upB B (junk B 6) := upB.junk B
    have f : frX I I := frX.refl I
    have sC := sC0
    have sM := sM0
    have hm9 := hm.cg u.cg
    have h178 := (u.1 178).trans h178
    have h20 := (u.1 (BIG + 20)).trans h20
    have hk9 := (u.1 184).trans hk4
    have hd9 := (u.1 185).trans hd4
    refine q_istore hG rfl rfl ?_
    refine q_aload_n hG rfl rfl ?_
    refine q_aload_n hG rfl rfl ?_
    refine q_iload hG rfl rfl ?_
    refine q_iconst (v := 1) hG rfl rfl ?_
    refine q_iadd hG rfl ?_
    refine q_iald9v (v := x1) hG rfl h20 ⟨by omega, by omega, by omega⟩ (by rw [show ((i : Int) + 1).toNat = i + 1 by omega]; exact e1) ?_
    refine q_callV6 hG rfl rfl rfl h178 (s_R_peaceHeight (B := (junk B 6)) (Js := hJ (junk B 6)) hm9 (fun j hj => sM.1.1.at j hj) hW (u.2.2.2.2 hv0) r1 (fun b1 K k1 k2 => ?_) (fun b1 Ls j1 j2 be b2 K k1 k2 => ?_) (fun b1 Ls j1 j2 b2 K k1 k2 => ?_))
    · have ht9 := k2
      have sM2 := sM.sth k1
      have g := k1.fM
      refine q_istore hG rfl rfl ?_
      refine q_aload_n hG rfl rfl ?_
      refine q_callV6 hG rfl rfl rfl h178 (s_R_thrown hm9 ht9 ?_)
      refine q_iload hG rfl rfl ?_
      refine q_icmp_eq hG rfl ⟨by omega, by omega⟩ ⟨by omega, by omega⟩ (fun _ => ?_) (fun q => absurd (by decide) q)
      refine q_iload hG rfl rfl ?_
      refine q_if_ne hG rfl ⟨by omega, by omega⟩ (fun _ => ?_) (fun q => absurd (by decide) q)
      refine q_goto hG rfl ?_
      exact hend _ _ _ _ _ (INV.of hb hKI u sC sM2 f g (hWI.up))
    · exfalso
      first | contradiction | omega
    · exfalso
      first | contradiction | omega
  · have u : upB B (sJ B 184 0 (i3 (bc x1.toNat)).toInt64) := (upB.refl B).J (i3 (bc x1.toNat)).toInt64
    have hj9 : hJ (sJ B 184 0 (i3 (bc x1.toNat)).toInt64) 184 0 = (i3 (bc x1.toNat)).toInt64 := sJ_at B _
    have f : frX I J := trf.X c1
    have sC := sC0.trf c1
    have sM := sM0.cls f
    have hm9 := hm.cg u.cg
    have h178 := (u.1 178).trans h178
    have h20 := (u.1 (BIG + 20)).trans h20
    have hk9 := (u.1 184).trans hk4
    have hd9 := (u.1 185).trans hd4
    have e1 : J (BIG + 20) (i + 1) = x1 := by rw [f (BIG + 20) (Or.inr (by omega))]; exact e1
    refine q_istore hG rfl rfl ?_
    refine q_aload_n hG rfl rfl ?_
    refine q_aload_n hG rfl rfl ?_
    refine q_iload hG rfl rfl ?_
    refine q_iconst (v := 1) hG rfl rfl ?_
    refine q_iadd hG rfl ?_
    refine q_iald9v (v := x1) hG rfl h20 ⟨by omega, by omega, by omega⟩ (by rw [show ((i : Int) + 1).toNat = i + 1 by omega]; exact e1) ?_
    refine q_callV6 hG rfl rfl rfl h178 (s_R_peaceHeight (B := (sJ B 184 0 (i3 (bc x1.toNat)).toInt64)) (Js := hJ (sJ B 184 0 (i3 (bc x1.toNat)).toInt64)) hm9 (fun j hj => sM.1.1.at j hj) hW (u.2.2.2.2 hv0) r1 (fun b1 K k1 k2 => ?_) (fun b1 Ls j1 j2 be b2 K k1 k2 => ?_) (fun b1 Ls j1 j2 b2 K k1 k2 => ?_))
    · exfalso
      first | contradiction | omega
    · rw [← fp_one a2 b2 x1.toNat (by omega)]
      have ht9 := k2
      have sM2 := sM.sth k1
      have g := k1.fM
      have hj9 : Ls 184 0 = _ := (congrFun (j1 184 (by decide)) 0).trans hj9
      refine q_istore hG rfl rfl ?_
      refine q_aload_n hG rfl rfl ?_
      refine q_callV6 hG rfl rfl rfl h178 (s_R_thrown hm9 ht9 ?_)
      refine q_iload hG rfl rfl ?_
      refine q_icmp_eq hG rfl ⟨by omega, by omega⟩ ⟨by omega, by omega⟩ (fun _ => ?_) (fun q => absurd (by decide) q)
      refine q_iload hG rfl rfl ?_
      refine q_if_ne hG rfl ⟨by omega, by omega⟩ (fun q => absurd q (by decide)) (fun _ => ?_)
      refine q_aload_n hG rfl rfl ?_
      refine q_iconst (v := 0) hG rfl rfl ?_
      refine q_laldX hG rfl hk9 hj9 ?_
      refine q_iload hG rfl rfl ?_
      refine q_i2l hG rfl ?_
      refine q_lcmp_same hG rfl ?_
      refine q_if_eq hG rfl ⟨by omega, by omega⟩ (fun _ => ?_) (fun q => absurd (by decide) q)
      refine q_goto hG rfl ?_
      exact hend _ _ _ _ _ (INV.of hb hKI (u.L j2) sC sM2 f g (hWI.up))
    · exfalso
      exact b2 _ a2.1
  · have u : upB B (junk B 6) := upB.junk B
    have f : frX I J := trf.X c1
    have sC := sC0.trf c1
    have sM := sM0.cls f
    have hm9 := hm.cg u.cg
    have h178 := (u.1 178).trans h178
    have h20 := (u.1 (BIG + 20)).trans h20
    have hk9 := (u.1 184).trans hk4
    have hd9 := (u.1 185).trans hd4
    have e1 : J (BIG + 20) (i + 1) = x1 := by rw [f (BIG + 20) (Or.inr (by omega))]; exact e1
    refine q_istore hG rfl rfl ?_
    refine q_aload_n hG rfl rfl ?_
    refine q_aload_n hG rfl rfl ?_
    refine q_iload hG rfl rfl ?_
    refine q_iconst (v := 1) hG rfl rfl ?_
    refine q_iadd hG rfl ?_
    refine q_iald9v (v := x1) hG rfl h20 ⟨by omega, by omega, by omega⟩ (by rw [show ((i : Int) + 1).toNat = i + 1 by omega]; exact e1) ?_
    refine q_callV6 hG rfl rfl rfl h178 (s_R_peaceHeight (B := (junk B 6)) (Js := hJ (junk B 6)) hm9 (fun j hj => sM.1.1.at j hj) hW (u.2.2.2.2 hv0) r1 (fun b1 K k1 k2 => ?_) (fun b1 Ls j1 j2 be b2 K k1 k2 => ?_) (fun b1 Ls j1 j2 b2 K k1 k2 => ?_))
    · exfalso
      first | contradiction | omega
    · exfalso
      exact a2 _ b2.1
    · have ht9 := k2
      have sM2 := sM.sth k1
      have g := k1.fM
      refine q_istore hG rfl rfl ?_
      refine q_aload_n hG rfl rfl ?_
      refine q_callV6 hG rfl rfl rfl h178 (s_R_thrown hm9 ht9 ?_)
      refine q_iload hG rfl rfl ?_
      refine q_icmp_eq hG rfl ⟨by omega, by omega⟩ ⟨by omega, by omega⟩ (fun _ => ?_) (fun q => absurd (by decide) q)
      refine q_iload hG rfl rfl ?_
      refine q_if_ne hG rfl ⟨by omega, by omega⟩ (fun _ => ?_) (fun q => absurd (by decide) q)
      refine q_goto hG rfl ?_
      exact hend _ _ _ _ _ (INV.of hb hKI (u.L j2) sC sM2 f g (hWI.up))
set_option maxRecDepth 100000 in
theorem lc_32 {d : Nat} {Post : Out → HP → Prop} {G : Nat → LV → List Value → HP → Prop} (hG : Cl (Sp (d + 21)) md_L_law Post G) {N L : Nat} {B : HP} {I : IM} (hI : INV N L B I) (hN : N ≤ 512) {i : Nat} (hi : i + 5 ≤ L) (hL : L ≤ 2560) (hend : ∀ (B2 : HP) (K : IM) (l6 l7 l8 : Option Value), INV (N + 1) L B2 K → G 2835 [some (.ref (BIG + 20)), some (.ref 0), some (.ref 178), some (.ref 184), some (.ref 185), some (.int (i3 (i : Int))), l6, l7, l8] [] (wI B2 K)) (l6 l7 l8 : Option Value) : G 1850 [some (.ref (BIG + 20)), some (.ref 0), some (.ref 178), some (.ref 184), some (.ref 185), some (.int (i3 (i : Int))), l6, l7, l8] [] (wI B I) := by
  obtain ⟨R, c, h, sv, SR, eo, why, det, cau, o, l, hb, hKI, sC0, sM0, hWI⟩ := hI
  have hb0 := hb
  obtain ⟨hX, hm, hk4, hd4, h20, hn1, hw1, hv0⟩ := hb0
  have h0 := hX.1
  have h178 := hm.1
  have hW := hWI.1
  have w0 := hW.1
  have w1 := hW.2.1
  have hq : 20000 * (N : Int) ≤ 2000000000 := by omega
  have hC := sC0.1
  have hR := hC.1
  have hrW := hWI.2.2.2.1
  refine q_aload_n hG rfl rfl ?_
  refine q_aload_n hG rfl rfl ?_
  refine q_callS0 hG rfl rfl rfl (s_L_peaceSum h0 (fun P y z3 => s_X_peaceSum hX hR hW hq (fun k hk => (hC.2.2.2.2.2.2.2.2 k hk).2) (fun J bc a1 c1 => y _ _ _ hk4 ?_) (fun J a1 c1 => z3 _ _ ?_)))
  · have u : upB B (sJ B 184 0 (i3 (sm bc (R 0).toNat)).toInt64) := (upB.refl B).J (i3 (sm bc (R 0).toNat)).toInt64
    have hj9 : hJ (sJ B 184 0 (i3 (sm bc (R 0).toNat)).toInt64) 184 0 = (i3 (sm bc (R 0).toNat)).toInt64 := sJ_at B _
    have f : frX I J := trf.X c1
    have sC := sC0.trf c1
    have sM := sM0.cls f
    have hm9 := hm.cg u.cg
    have h178 := (u.1 178).trans h178
    have h20 := (u.1 (BIG + 20)).trans h20
    have hk9 := (u.1 184).trans hk4
    have hd9 := (u.1 185).trans hd4
    refine q_istore hG rfl rfl ?_
    refine q_aload_n hG rfl rfl ?_
    refine q_callV6 hG rfl rfl rfl h178 (s_R_peaceSum (B := (sJ B 184 0 (i3 (sm bc (R 0).toNat)).toInt64)) (Js := hJ (sJ B 184 0 (i3 (sm bc (R 0).toNat)).toInt64)) hm9 (fun j hj => sM.1.1.at j hj) hW (u.2.2.2.2 hv0) (fun Ls j1 j2 be b1 K k1 k2 => ?_) (fun Ls j1 j2 b1 K k1 k2 => ?_))
    · rw [← sm_congr (R 0).toNat (fp_one a1 b1)]
      have ht9 := k2
      have sM2 := sM.sth k1
      have g := k1.fM
      have hj9 : Ls 184 0 = _ := (congrFun (j1 184 (by decide)) 0).trans hj9
      refine q_istore hG rfl rfl ?_
      refine q_aload_n hG rfl rfl ?_
      refine q_callV6 hG rfl rfl rfl h178 (s_R_thrown hm9 ht9 ?_)
      refine q_iload hG rfl rfl ?_
      refine q_icmp_eq hG rfl ⟨by omega, by omega⟩ ⟨by omega, by omega⟩ (fun _ => ?_) (fun q => absurd (by decide) q)
      refine q_iload hG rfl rfl ?_
      refine q_if_ne hG rfl ⟨by omega, by omega⟩ (fun q => absurd q (by decide)) (fun _ => ?_)
      refine q_aload_n hG rfl rfl ?_
      refine q_iconst (v := 0) hG rfl rfl ?_
      refine q_laldX hG rfl hk9 hj9 ?_
      refine q_iload hG rfl rfl ?_
      refine q_i2l hG rfl ?_
      refine q_lcmp_same hG rfl ?_
      refine q_if_eq hG rfl ⟨by omega, by omega⟩ (fun _ => ?_) (fun q => absurd (by decide) q)
      refine q_goto hG rfl ?_
      exact hend _ _ _ _ _ (INV.of hb hKI (u.L j2) sC sM2 f g (hWI.up))
    · exfalso
      exact b1 _ a1.1
  · have u : upB B (junk B 6) := upB.junk B
    have f : frX I J := trf.X c1
    have sC := sC0.trf c1
    have sM := sM0.cls f
    have hm9 := hm.cg u.cg
    have h178 := (u.1 178).trans h178
    have h20 := (u.1 (BIG + 20)).trans h20
    have hk9 := (u.1 184).trans hk4
    have hd9 := (u.1 185).trans hd4
    refine q_istore hG rfl rfl ?_
    refine q_aload_n hG rfl rfl ?_
    refine q_callV6 hG rfl rfl rfl h178 (s_R_peaceSum (B := (junk B 6)) (Js := hJ (junk B 6)) hm9 (fun j hj => sM.1.1.at j hj) hW (u.2.2.2.2 hv0) (fun Ls j1 j2 be b1 K k1 k2 => ?_) (fun Ls j1 j2 b1 K k1 k2 => ?_))
    · exfalso
      exact a1 _ b1.1
    · have ht9 := k2
      have sM2 := sM.sth k1
      have g := k1.fM
      refine q_istore hG rfl rfl ?_
      refine q_aload_n hG rfl rfl ?_
      refine q_callV6 hG rfl rfl rfl h178 (s_R_thrown hm9 ht9 ?_)
      refine q_iload hG rfl rfl ?_
      refine q_icmp_eq hG rfl ⟨by omega, by omega⟩ ⟨by omega, by omega⟩ (fun _ => ?_) (fun q => absurd (by decide) q)
      refine q_iload hG rfl rfl ?_
      refine q_if_ne hG rfl ⟨by omega, by omega⟩ (fun _ => ?_) (fun q => absurd (by decide) q)
      refine q_goto hG rfl ?_
      exact hend _ _ _ _ _ (INV.of hb hKI (u.L j2) sC sM2 f g (hWI.up))
set_option maxRecDepth 100000 in
theorem lc_33 {d : Nat} {Post : Out → HP → Prop} {G : Nat → LV → List Value → HP → Prop} (hG : Cl (Sp (d + 21)) md_L_law Post G) {N L : Nat} {B : HP} {I : IM} (hI : INV N L B I) (hN : N ≤ 512) {i : Nat} (hi : i + 5 ≤ L) (hL : L ≤ 2560) (hend : ∀ (B2 : HP) (K : IM) (l6 l7 l8 : Option Value), INV (N + 1) L B2 K → G 2835 [some (.ref (BIG + 20)), some (.ref 0), some (.ref 178), some (.ref 184), some (.ref 185), some (.int (i3 (i : Int))), l6, l7, l8] [] (wI B2 K)) (l6 l7 l8 : Option Value) : G 1894 [some (.ref (BIG + 20)), some (.ref 0), some (.ref 178), some (.ref 184), some (.ref 185), some (.int (i3 (i : Int))), l6, l7, l8] [] (wI B I) := by
  obtain ⟨R, c, h, sv, SR, eo, why, det, cau, o, l, hb, hKI, sC0, sM0, hWI⟩ := hI
  have hb0 := hb
  obtain ⟨hX, hm, hk4, hd4, h20, hn1, hw1, hv0⟩ := hb0
  have h0 := hX.1
  have h178 := hm.1
  have hW := hWI.1
  have w0 := hW.1
  have w1 := hW.2.1
  have hq : 20000 * (N : Int) ≤ 2000000000 := by omega
  have hC := sC0.1
  have hR := hC.1
  have hrW := hWI.2.2.2.1
  obtain ⟨x1, e1⟩ : ∃ v, I (BIG + 20) (i + 1) = v := ⟨_, rfl⟩
  have r1 : r32 x1 := e1 ▸ hKI.2.2.2 (i + 1)
  have ra1 := r1.1
  have rb1 := r1.2
  obtain ⟨x2, e2⟩ : ∃ v, I (BIG + 20) (i + 2) = v := ⟨_, rfl⟩
  have r2 : r32 x2 := e2 ▸ hKI.2.2.2 (i + 2)
  have ra2 := r2.1
  have rb2 := r2.2
  obtain ⟨x3, e3⟩ : ∃ v, I (BIG + 20) (i + 3) = v := ⟨_, rfl⟩
  have r3 : r32 x3 := e3 ▸ hKI.2.2.2 (i + 3)
  have ra3 := r3.1
  have rb3 := r3.2
  obtain ⟨x4, e4⟩ : ∃ v, I (BIG + 20) (i + 4) = v := ⟨_, rfl⟩
  have r4 : r32 x4 := e4 ▸ hKI.2.2.2 (i + 4)
  have ra4 := r4.1
  have rb4 := r4.2
  refine q_aload_n hG rfl rfl ?_
  refine q_aload_n hG rfl rfl ?_
  refine q_iload hG rfl rfl ?_
  refine q_iconst (v := 1) hG rfl rfl ?_
  refine q_iadd hG rfl ?_
  refine q_iald9v (v := x1) hG rfl h20 ⟨by omega, by omega, by omega⟩ (by rw [show ((i : Int) + 1).toNat = i + 1 by omega]; exact e1) ?_
  refine q_aload_n hG rfl rfl ?_
  refine q_iload hG rfl rfl ?_
  refine q_iconst (v := 2) hG rfl rfl ?_
  refine q_iadd hG rfl ?_
  refine q_iald9v (v := x2) hG rfl h20 ⟨by omega, by omega, by omega⟩ (by rw [show ((i : Int) + 2).toNat = i + 2 by omega]; exact e2) ?_
  refine q_aload_n hG rfl rfl ?_
  refine q_iload hG rfl rfl ?_
  refine q_iconst (v := 3) hG rfl rfl ?_
  refine q_iadd hG rfl ?_
  refine q_iald9v (v := x3) hG rfl h20 ⟨by omega, by omega, by omega⟩ (by rw [show ((i : Int) + 3).toNat = i + 3 by omega]; exact e3) ?_
  refine q_aload_n hG rfl rfl ?_
  refine q_iload hG rfl rfl ?_
  refine q_iconst (v := 4) hG rfl rfl ?_
  refine q_iadd hG rfl ?_
  refine q_iald9v (v := x4) hG rfl h20 ⟨by omega, by omega, by omega⟩ (by rw [show ((i : Int) + 4).toNat = i + 4 by omega]; exact e4) ?_
  refine q_aload_n hG rfl rfl ?_
  refine q_callS0 hG rfl rfl rfl (s_L_arePossible h0 (fun P y1 y0 z2 z0 => s_X_arePossible hX hR hW hq r1 r3 r2 r4 (fun k hk => (hC.2.2.2.2.2.2.2.2 k hk).2) (fun a1 => z2 _ _ ?_) (fun a1 a2 => z0 _ _ ?_) (fun a1 a2 a3 J c1 => y1 _ _ hk4 ?_) (fun a1 a2 a3 J c1 => y0 _ _ hk4 ?_)))
  · have u : upB B (junk B 6) := upB.junk B
    have f : frX I I := frX.refl I
    have sC := sC0
    have sM := sM0
    have hm9 := hm.cg u.cg
    have h178 := (u.1 178).trans h178
    have h20 := (u.1 (BIG + 20)).trans h20
    have hk9 := (u.1 184).trans hk4
    have hd9 := (u.1 185).trans hd4
    refine q_istore hG rfl rfl ?_
    refine q_aload_n hG rfl rfl ?_
    refine q_aload_n hG rfl rfl ?_
    refine q_iload hG rfl rfl ?_
    refine q_iconst (v := 1) hG rfl rfl ?_
    refine q_iadd hG rfl ?_
    refine q_iald9v (v := x1) hG rfl h20 ⟨by omega, by omega, by omega⟩ (by rw [show ((i : Int) + 1).toNat = i + 1 by omega]; exact e1) ?_
    refine q_aload_n hG rfl rfl ?_
    refine q_iload hG rfl rfl ?_
    refine q_iconst (v := 2) hG rfl rfl ?_
    refine q_iadd hG rfl ?_
    refine q_iald9v (v := x2) hG rfl h20 ⟨by omega, by omega, by omega⟩ (by rw [show ((i : Int) + 2).toNat = i + 2 by omega]; exact e2) ?_
    refine q_aload_n hG rfl rfl ?_
    refine q_iload hG rfl rfl ?_
    refine q_iconst (v := 3) hG rfl rfl ?_
    refine q_iadd hG rfl ?_
    refine q_iald9v (v := x3) hG rfl h20 ⟨by omega, by omega, by omega⟩ (by rw [show ((i : Int) + 3).toNat = i + 3 by omega]; exact e3) ?_
    refine q_aload_n hG rfl rfl ?_
    refine q_iload hG rfl rfl ?_
    refine q_iconst (v := 4) hG rfl rfl ?_
    refine q_iadd hG rfl ?_
    refine q_iald9v (v := x4) hG rfl h20 ⟨by omega, by omega, by omega⟩ (by rw [show ((i : Int) + 4).toNat = i + 4 by omega]; exact e4) ?_
    refine q_callV6 hG rfl rfl rfl h178 (s_R_arePossible (B := (junk B 6)) (Js := hJ (junk B 6)) hm9 (fun j hj => sM.1.1.at j hj) hW (u.2.2.2.2 hv0) r1 r3 r2 r4 (fun b1 K k1 k2 => ?_) (fun b1 b2 K k1 k2 => ?_) (fun b1 b2 b3 Ls j1 j2 K k1 k2 => ?_) (fun b1 b2 b3 Ls j1 j2 K k1 k2 => ?_))
    · have ht9 := k2
      have sM2 := sM.sth k1
      have g := k1.fM
      refine q_istore hG rfl rfl ?_
      refine q_aload_n hG rfl rfl ?_
      refine q_callV6 hG rfl rfl rfl h178 (s_R_thrown hm9 ht9 ?_)
      refine q_iload hG rfl rfl ?_
      refine q_icmp_eq hG rfl ⟨by omega, by omega⟩ ⟨by omega, by omega⟩ (fun _ => ?_) (fun q => absurd (by decide) q)
      refine q_iload hG rfl rfl ?_
      refine q_if_ne hG rfl ⟨by omega, by omega⟩ (fun _ => ?_) (fun q => absurd (by decide) q)
      refine q_goto hG rfl ?_
      exact hend _ _ _ _ _ (INV.of hb hKI u sC sM2 f g (hWI.up))
    · exfalso
      contradiction
    · exfalso
      contradiction
    · exfalso
      contradiction
  · have u : upB B (junk B 6) := upB.junk B
    have f : frX I I := frX.refl I
    have sC := sC0
    have sM := sM0
    have hm9 := hm.cg u.cg
    have h178 := (u.1 178).trans h178
    have h20 := (u.1 (BIG + 20)).trans h20
    have hk9 := (u.1 184).trans hk4
    have hd9 := (u.1 185).trans hd4
    refine q_istore hG rfl rfl ?_
    refine q_aload_n hG rfl rfl ?_
    refine q_aload_n hG rfl rfl ?_
    refine q_iload hG rfl rfl ?_
    refine q_iconst (v := 1) hG rfl rfl ?_
    refine q_iadd hG rfl ?_
    refine q_iald9v (v := x1) hG rfl h20 ⟨by omega, by omega, by omega⟩ (by rw [show ((i : Int) + 1).toNat = i + 1 by omega]; exact e1) ?_
    refine q_aload_n hG rfl rfl ?_
    refine q_iload hG rfl rfl ?_
    refine q_iconst (v := 2) hG rfl rfl ?_
    refine q_iadd hG rfl ?_
    refine q_iald9v (v := x2) hG rfl h20 ⟨by omega, by omega, by omega⟩ (by rw [show ((i : Int) + 2).toNat = i + 2 by omega]; exact e2) ?_
    refine q_aload_n hG rfl rfl ?_
    refine q_iload hG rfl rfl ?_
    refine q_iconst (v := 3) hG rfl rfl ?_
    refine q_iadd hG rfl ?_
    refine q_iald9v (v := x3) hG rfl h20 ⟨by omega, by omega, by omega⟩ (by rw [show ((i : Int) + 3).toNat = i + 3 by omega]; exact e3) ?_
    refine q_aload_n hG rfl rfl ?_
    refine q_iload hG rfl rfl ?_
    refine q_iconst (v := 4) hG rfl rfl ?_
    refine q_iadd hG rfl ?_
    refine q_iald9v (v := x4) hG rfl h20 ⟨by omega, by omega, by omega⟩ (by rw [show ((i : Int) + 4).toNat = i + 4 by omega]; exact e4) ?_
    refine q_callV6 hG rfl rfl rfl h178 (s_R_arePossible (B := (junk B 6)) (Js := hJ (junk B 6)) hm9 (fun j hj => sM.1.1.at j hj) hW (u.2.2.2.2 hv0) r1 r3 r2 r4 (fun b1 K k1 k2 => ?_) (fun b1 b2 K k1 k2 => ?_) (fun b1 b2 b3 Ls j1 j2 K k1 k2 => ?_) (fun b1 b2 b3 Ls j1 j2 K k1 k2 => ?_))
    · exfalso
      contradiction
    · have ht9 := k2
      have sM2 := sM.sth k1
      have g := k1.fM
      refine q_istore hG rfl rfl ?_
      refine q_aload_n hG rfl rfl ?_
      refine q_callV6 hG rfl rfl rfl h178 (s_R_thrown hm9 ht9 ?_)
      refine q_iload hG rfl rfl ?_
      refine q_icmp_eq hG rfl ⟨by omega, by omega⟩ ⟨by omega, by omega⟩ (fun _ => ?_) (fun q => absurd (by decide) q)
      refine q_iload hG rfl rfl ?_
      refine q_if_ne hG rfl ⟨by omega, by omega⟩ (fun _ => ?_) (fun q => absurd (by decide) q)
      refine q_goto hG rfl ?_
      exact hend _ _ _ _ _ (INV.of hb hKI u sC sM2 f g (hWI.up))
    · exfalso
      contradiction
    · exfalso
      contradiction
  · have u : upB B (sJ B 184 0 1) := (upB.refl B).J 1
    have hj9 : hJ (sJ B 184 0 1) 184 0 = 1 := sJ_at B _
    have f : frX I J := trf.X c1
    have sC := sC0.trf c1
    have sM := sM0.cls f
    have hm9 := hm.cg u.cg
    have h178 := (u.1 178).trans h178
    have h20 := (u.1 (BIG + 20)).trans h20
    have hk9 := (u.1 184).trans hk4
    have hd9 := (u.1 185).trans hd4
    have e1 : J (BIG + 20) (i + 1) = x1 := by rw [f (BIG + 20) (Or.inr (by omega))]; exact e1
    have e2 : J (BIG + 20) (i + 2) = x2 := by rw [f (BIG + 20) (Or.inr (by omega))]; exact e2
    have e3 : J (BIG + 20) (i + 3) = x3 := by rw [f (BIG + 20) (Or.inr (by omega))]; exact e3
    have e4 : J (BIG + 20) (i + 4) = x4 := by rw [f (BIG + 20) (Or.inr (by omega))]; exact e4
    refine q_istore hG rfl rfl ?_
    refine q_aload_n hG rfl rfl ?_
    refine q_aload_n hG rfl rfl ?_
    refine q_iload hG rfl rfl ?_
    refine q_iconst (v := 1) hG rfl rfl ?_
    refine q_iadd hG rfl ?_
    refine q_iald9v (v := x1) hG rfl h20 ⟨by omega, by omega, by omega⟩ (by rw [show ((i : Int) + 1).toNat = i + 1 by omega]; exact e1) ?_
    refine q_aload_n hG rfl rfl ?_
    refine q_iload hG rfl rfl ?_
    refine q_iconst (v := 2) hG rfl rfl ?_
    refine q_iadd hG rfl ?_
    refine q_iald9v (v := x2) hG rfl h20 ⟨by omega, by omega, by omega⟩ (by rw [show ((i : Int) + 2).toNat = i + 2 by omega]; exact e2) ?_
    refine q_aload_n hG rfl rfl ?_
    refine q_iload hG rfl rfl ?_
    refine q_iconst (v := 3) hG rfl rfl ?_
    refine q_iadd hG rfl ?_
    refine q_iald9v (v := x3) hG rfl h20 ⟨by omega, by omega, by omega⟩ (by rw [show ((i : Int) + 3).toNat = i + 3 by omega]; exact e3) ?_
    refine q_aload_n hG rfl rfl ?_
    refine q_iload hG rfl rfl ?_
    refine q_iconst (v := 4) hG rfl rfl ?_
    refine q_iadd hG rfl ?_
    refine q_iald9v (v := x4) hG rfl h20 ⟨by omega, by omega, by omega⟩ (by rw [show ((i : Int) + 4).toNat = i + 4 by omega]; exact e4) ?_
    refine q_callV6 hG rfl rfl rfl h178 (s_R_arePossible (B := (sJ B 184 0 1)) (Js := hJ (sJ B 184 0 1)) hm9 (fun j hj => sM.1.1.at j hj) hW (u.2.2.2.2 hv0) r1 r3 r2 r4 (fun b1 K k1 k2 => ?_) (fun b1 b2 K k1 k2 => ?_) (fun b1 b2 b3 Ls j1 j2 K k1 k2 => ?_) (fun b1 b2 b3 Ls j1 j2 K k1 k2 => ?_))
    · exfalso
      contradiction
    · exfalso
      contradiction
    · have ht9 := k2
      have sM2 := sM.sth k1
      have g := k1.fM
      have hj9 : Ls 184 0 = _ := (congrFun (j1 184 (by decide)) 0).trans hj9
      refine q_istore hG rfl rfl ?_
      refine q_aload_n hG rfl rfl ?_
      refine q_callV6 hG rfl rfl rfl h178 (s_R_thrown hm9 ht9 ?_)
      refine q_iload hG rfl rfl ?_
      refine q_icmp_eq hG rfl ⟨by omega, by omega⟩ ⟨by omega, by omega⟩ (fun _ => ?_) (fun q => absurd (by decide) q)
      refine q_iload hG rfl rfl ?_
      refine q_if_ne hG rfl ⟨by omega, by omega⟩ (fun q => absurd q (by decide)) (fun _ => ?_)
      refine q_aload_n hG rfl rfl ?_
      refine q_iconst (v := 0) hG rfl rfl ?_
      refine q_laldX hG rfl hk9 hj9 ?_
      refine q_iload hG rfl rfl ?_
      refine q_if_eq hG rfl ⟨by omega, by omega⟩ (fun q => absurd q (by decide)) (fun _ => ?_)
      refine q_lconst1 hG rfl ?_
      refine q_goto hG rfl ?_
      refine q_lcmp_same hG rfl ?_
      refine q_if_eq hG rfl ⟨by omega, by omega⟩ (fun _ => ?_) (fun q => absurd (by decide) q)
      refine q_goto hG rfl ?_
      exact hend _ _ _ _ _ (INV.of hb hKI (u.L j2) sC sM2 f g (hWI.up))
    · exfalso
      contradiction
  · have u : upB B (sJ B 184 0 0) := (upB.refl B).J 0
    have hj9 : hJ (sJ B 184 0 0) 184 0 = 0 := sJ_at B _
    have f : frX I J := trf.X c1
    have sC := sC0.trf c1
    have sM := sM0.cls f
    have hm9 := hm.cg u.cg
    have h178 := (u.1 178).trans h178
    have h20 := (u.1 (BIG + 20)).trans h20
    have hk9 := (u.1 184).trans hk4
    have hd9 := (u.1 185).trans hd4
    have e1 : J (BIG + 20) (i + 1) = x1 := by rw [f (BIG + 20) (Or.inr (by omega))]; exact e1
    have e2 : J (BIG + 20) (i + 2) = x2 := by rw [f (BIG + 20) (Or.inr (by omega))]; exact e2
    have e3 : J (BIG + 20) (i + 3) = x3 := by rw [f (BIG + 20) (Or.inr (by omega))]; exact e3
    have e4 : J (BIG + 20) (i + 4) = x4 := by rw [f (BIG + 20) (Or.inr (by omega))]; exact e4
    refine q_istore hG rfl rfl ?_
    refine q_aload_n hG rfl rfl ?_
    refine q_aload_n hG rfl rfl ?_
    refine q_iload hG rfl rfl ?_
    refine q_iconst (v := 1) hG rfl rfl ?_
    refine q_iadd hG rfl ?_
    refine q_iald9v (v := x1) hG rfl h20 ⟨by omega, by omega, by omega⟩ (by rw [show ((i : Int) + 1).toNat = i + 1 by omega]; exact e1) ?_
    refine q_aload_n hG rfl rfl ?_
    refine q_iload hG rfl rfl ?_
    refine q_iconst (v := 2) hG rfl rfl ?_
    refine q_iadd hG rfl ?_
    refine q_iald9v (v := x2) hG rfl h20 ⟨by omega, by omega, by omega⟩ (by rw [show ((i : Int) + 2).toNat = i + 2 by omega]; exact e2) ?_
    refine q_aload_n hG rfl rfl ?_
    refine q_iload hG rfl rfl ?_
    refine q_iconst (v := 3) hG rfl rfl ?_
    refine q_iadd hG rfl ?_
    refine q_iald9v (v := x3) hG rfl h20 ⟨by omega, by omega, by omega⟩ (by rw [show ((i : Int) + 3).toNat = i + 3 by omega]; exact e3) ?_
    refine q_aload_n hG rfl rfl ?_
    refine q_iload hG rfl rfl ?_
    refine q_iconst (v := 4) hG rfl rfl ?_
    refine q_iadd hG rfl ?_
    refine q_iald9v (v := x4) hG rfl h20 ⟨by omega, by omega, by omega⟩ (by rw [show ((i : Int) + 4).toNat = i + 4 by omega]; exact e4) ?_
    refine q_callV6 hG rfl rfl rfl h178 (s_R_arePossible (B := (sJ B 184 0 0)) (Js := hJ (sJ B 184 0 0)) hm9 (fun j hj => sM.1.1.at j hj) hW (u.2.2.2.2 hv0) r1 r3 r2 r4 (fun b1 K k1 k2 => ?_) (fun b1 b2 K k1 k2 => ?_) (fun b1 b2 b3 Ls j1 j2 K k1 k2 => ?_) (fun b1 b2 b3 Ls j1 j2 K k1 k2 => ?_))
    · exfalso
      contradiction
    · exfalso
      contradiction
    · exfalso
      contradiction
    · have ht9 := k2
      have sM2 := sM.sth k1
      have g := k1.fM
      have hj9 : Ls 184 0 = _ := (congrFun (j1 184 (by decide)) 0).trans hj9
      refine q_istore hG rfl rfl ?_
      refine q_aload_n hG rfl rfl ?_
      refine q_callV6 hG rfl rfl rfl h178 (s_R_thrown hm9 ht9 ?_)
      refine q_iload hG rfl rfl ?_
      refine q_icmp_eq hG rfl ⟨by omega, by omega⟩ ⟨by omega, by omega⟩ (fun _ => ?_) (fun q => absurd (by decide) q)
      refine q_iload hG rfl rfl ?_
      refine q_if_ne hG rfl ⟨by omega, by omega⟩ (fun q => absurd q (by decide)) (fun _ => ?_)
      refine q_aload_n hG rfl rfl ?_
      refine q_iconst (v := 0) hG rfl rfl ?_
      refine q_laldX hG rfl hk9 hj9 ?_
      refine q_iload hG rfl rfl ?_
      refine q_if_eq hG rfl ⟨by omega, by omega⟩ (fun _ => ?_) (fun q => absurd (by decide) q)
      refine q_lconst0 hG rfl ?_
      refine q_lcmp_same hG rfl ?_
      refine q_if_eq hG rfl ⟨by omega, by omega⟩ (fun _ => ?_) (fun q => absurd (by decide) q)
      refine q_goto hG rfl ?_
      exact hend _ _ _ _ _ (INV.of hb hKI (u.L j2) sC sM2 f g (hWI.up))
set_option maxRecDepth 100000 in
theorem lc_39 {d : Nat} {Post : Out → HP → Prop} {G : Nat → LV → List Value → HP → Prop} (hG : Cl (Sp (d + 21)) md_L_law Post G) {N L : Nat} {B : HP} {I : IM} (hI : INV N L B I) (hN : N ≤ 512) {i : Nat} (hi : i + 5 ≤ L) (hL : L ≤ 2560) (hend : ∀ (B2 : HP) (K : IM) (l6 l7 l8 : Option Value), INV (N + 1) L B2 K → G 2835 [some (.ref (BIG + 20)), some (.ref 0), some (.ref 178), some (.ref 184), some (.ref 185), some (.int (i3 (i : Int))), l6, l7, l8] [] (wI B2 K)) (l6 l7 l8 : Option Value) : G 2144 [some (.ref (BIG + 20)), some (.ref 0), some (.ref 178), some (.ref 184), some (.ref 185), some (.int (i3 (i : Int))), l6, l7, l8] [] (wI B I) := by
  obtain ⟨R, c, h, sv, SR, eo, why, det, cau, o, l, hb, hKI, sC0, sM0, hWI⟩ := hI
  have hb0 := hb
  obtain ⟨hX, hm, hk4, hd4, h20, hn1, hw1, hv0⟩ := hb0
  have h0 := hX.1
  have h178 := hm.1
  have hW := hWI.1
  have w0 := hW.1
  have w1 := hW.2.1
  have hq : 20000 * (N : Int) ≤ 2000000000 := by omega
  have hC := sC0.1
  have hR := hC.1
  have hrW := hWI.2.2.2.1
  refine q_aload_n hG rfl rfl ?_
  refine q_aload hG rfl rfl ?_
  refine q_callS0 hG rfl rfl rfl (s_L_meanWidth h0 (fun P y z5 => s_X_meanWidth hX hR hW hq (fun a1 => y _ _ _ hd4 ?_) (fun a1 => z5 _ _ ?_)))
  · have u : upB B (sU B 185 0 (mwV R)) := (upB.refl B).U (mwV R)
    have hg9 : hU (sU B 185 0 (mwV R)) 185 0 = (mwV R) := sU_at B _
    have f : frX I I := frX.refl I
    have sC := sC0
    have sM := sM0
    have hm9 := hm.cg u.cg
    have h178 := (u.1 178).trans h178
    have h20 := (u.1 (BIG + 20)).trans h20
    have hk9 := (u.1 184).trans hk4
    have hd9 := (u.1 185).trans hd4
    refine q_istore hG rfl rfl ?_
    refine q_aload_n hG rfl rfl ?_
    refine q_callV6 hG rfl rfl rfl h178 (s_R_meanWidth hm9 sM.1.1 hW hq (fun b1 K k1 k2 => ?_) (fun b1 K k1 k2 => ?_))
    · have ht9 := k2
      have sM2 := sM.sth k1
      have g := k1.fM
      refine q_dstore hG rfl rfl ?_
      refine q_aload_n hG rfl rfl ?_
      refine q_callV6 hG rfl rfl rfl h178 (s_R_thrown hm9 ht9 ?_)
      refine q_iload hG rfl rfl ?_
      refine q_icmp_eq hG rfl ⟨by omega, by omega⟩ ⟨by omega, by omega⟩ (fun _ => ?_) (fun q => absurd (by decide) q)
      refine q_iload hG rfl rfl ?_
      refine q_if_ne hG rfl ⟨by omega, by omega⟩ (fun q => absurd q (by decide)) (fun _ => ?_)
      refine q_aload hG rfl rfl ?_
      refine q_iconst (v := 0) hG rfl rfl ?_
      refine q_daldX hG rfl hd9 hg9 ?_
      refine q_dload hG rfl rfl ?_
      refine q_dcmp hG rfl ?_
      rw [show Op.cmpValue (FP.dcmp (mwV R) (mwV R)) .l = i3 0 from (mw_ok hW a1).2]
      refine q_if_eq hG rfl ⟨by omega, by omega⟩ (fun hc2181 => ?_) (fun hc2181 => absurd (by omega) hc2181)
      refine q_goto hG rfl ?_
      exact hend _ _ _ _ _ (INV.of hb hKI u sC sM2 f g (hWI.up))
    · exfalso
      first | contradiction | omega
  · have u : upB B (junk B 6) := upB.junk B
    have f : frX I I := frX.refl I
    have sC := sC0
    have sM := sM0
    have hm9 := hm.cg u.cg
    have h178 := (u.1 178).trans h178
    have h20 := (u.1 (BIG + 20)).trans h20
    have hk9 := (u.1 184).trans hk4
    have hd9 := (u.1 185).trans hd4
    refine q_istore hG rfl rfl ?_
    refine q_aload_n hG rfl rfl ?_
    refine q_callV6 hG rfl rfl rfl h178 (s_R_meanWidth hm9 sM.1.1 hW hq (fun b1 K k1 k2 => ?_) (fun b1 K k1 k2 => ?_))
    · exfalso
      first | contradiction | omega
    · have ht9 := k2
      have sM2 := sM.sth k1
      have g := k1.fM
      refine q_dstore hG rfl rfl ?_
      refine q_aload_n hG rfl rfl ?_
      refine q_callV6 hG rfl rfl rfl h178 (s_R_thrown hm9 ht9 ?_)
      refine q_iload hG rfl rfl ?_
      refine q_icmp_eq hG rfl ⟨by omega, by omega⟩ ⟨by omega, by omega⟩ (fun _ => ?_) (fun q => absurd (by decide) q)
      refine q_iload hG rfl rfl ?_
      refine q_if_ne hG rfl ⟨by omega, by omega⟩ (fun _ => ?_) (fun q => absurd (by decide) q)
      refine q_goto hG rfl ?_
      exact hend _ _ _ _ _ (INV.of hb hKI u sC sM2 f g (hWI.up))
set_option maxRecDepth 100000 in
theorem lc_40 {d : Nat} {Post : Out → HP → Prop} {G : Nat → LV → List Value → HP → Prop} (hG : Cl (Sp (d + 21)) md_L_law Post G) {N L : Nat} {B : HP} {I : IM} (hI : INV N L B I) (hN : N ≤ 512) {i : Nat} (hi : i + 5 ≤ L) (hL : L ≤ 2560) (hend : ∀ (B2 : HP) (K : IM) (l6 l7 l8 : Option Value), INV (N + 1) L B2 K → G 2835 [some (.ref (BIG + 20)), some (.ref 0), some (.ref 178), some (.ref 184), some (.ref 185), some (.int (i3 (i : Int))), l6, l7, l8] [] (wI B2 K)) (l6 l7 l8 : Option Value) : G 2209 [some (.ref (BIG + 20)), some (.ref 0), some (.ref 178), some (.ref 184), some (.ref 185), some (.int (i3 (i : Int))), l6, l7, l8] [] (wI B I) := by
  obtain ⟨R, c, h, sv, SR, eo, why, det, cau, o, l, hb, hKI, sC0, sM0, hWI⟩ := hI
  have hb0 := hb
  obtain ⟨hX, hm, hk4, hd4, h20, hn1, hw1, hv0⟩ := hb0
  have h0 := hX.1
  have h178 := hm.1
  have hW := hWI.1
  have w0 := hW.1
  have w1 := hW.2.1
  have hq : 20000 * (N : Int) ≤ 2000000000 := by omega
  have hC := sC0.1
  have hR := hC.1
  have hrW := hWI.2.2.2.1
  refine q_aload_n hG rfl rfl ?_
  refine q_aload hG rfl rfl ?_
  refine q_callS0 hG rfl rfl rfl (s_L_fixedShare h0 (fun P y z5 => s_X_fixedShare hX hR hW hq (fun a1 => y _ _ _ hd4 (fs_ok hW a1).2.1 ?_) (fun a1 => z5 _ _ ?_)))
  · have u : upB B (sU B 185 0 (FP.f2d (fsV R))) := (upB.refl B).U (FP.f2d (fsV R))
    have hg9 : hU (sU B 185 0 (FP.f2d (fsV R))) 185 0 = (FP.f2d (fsV R)) := sU_at B _
    have f : frX I I := frX.refl I
    have sC := sC0
    have sM := sM0
    have hm9 := hm.cg u.cg
    have h178 := (u.1 178).trans h178
    have h20 := (u.1 (BIG + 20)).trans h20
    have hk9 := (u.1 184).trans hk4
    have hd9 := (u.1 185).trans hd4
    refine q_istore hG rfl rfl ?_
    refine q_aload_n hG rfl rfl ?_
    refine q_callV6 hG rfl rfl rfl h178 (s_R_fixedShare hm9 sM.1.1 hW hq (fun b1 K k1 k2 => ?_) (fun b1 K k1 k2 => ?_))
    · have ht9 := k2
      have sM2 := sM.sth k1
      have g := k1.fM
      refine q_fstore hG rfl rfl ?_
      refine q_aload_n hG rfl rfl ?_
      refine q_callV6 hG rfl rfl rfl h178 (s_R_thrown hm9 ht9 ?_)
      refine q_iload hG rfl rfl ?_
      refine q_icmp_eq hG rfl ⟨by omega, by omega⟩ ⟨by omega, by omega⟩ (fun _ => ?_) (fun q => absurd (by decide) q)
      refine q_iload hG rfl rfl ?_
      refine q_if_ne hG rfl ⟨by omega, by omega⟩ (fun q => absurd q (by decide)) (fun _ => ?_)
      refine q_aload hG rfl rfl ?_
      refine q_iconst (v := 0) hG rfl rfl ?_
      refine q_daldX hG rfl hd9 hg9 ?_
      refine q_fload hG rfl rfl ?_
      refine q_f2d hG rfl (fs_ok hW a1).2.1 ?_
      refine q_dcmp hG rfl ?_
      rw [show Op.cmpValue (FP.dcmp (FP.f2d (fsV R)) (FP.f2d (fsV R))) .l = i3 0 from (fs_ok hW a1).2.2]
      refine q_if_eq hG rfl ⟨by omega, by omega⟩ (fun hc2247 => ?_) (fun hc2247 => absurd (by omega) hc2247)
      refine q_goto hG rfl ?_
      exact hend _ _ _ _ _ (INV.of hb hKI u sC sM2 f g (hWI.up))
    · exfalso
      first | contradiction | omega
  · have u : upB B (junk B 6) := upB.junk B
    have f : frX I I := frX.refl I
    have sC := sC0
    have sM := sM0
    have hm9 := hm.cg u.cg
    have h178 := (u.1 178).trans h178
    have h20 := (u.1 (BIG + 20)).trans h20
    have hk9 := (u.1 184).trans hk4
    have hd9 := (u.1 185).trans hd4
    refine q_istore hG rfl rfl ?_
    refine q_aload_n hG rfl rfl ?_
    refine q_callV6 hG rfl rfl rfl h178 (s_R_fixedShare hm9 sM.1.1 hW hq (fun b1 K k1 k2 => ?_) (fun b1 K k1 k2 => ?_))
    · exfalso
      first | contradiction | omega
    · have ht9 := k2
      have sM2 := sM.sth k1
      have g := k1.fM
      refine q_fstore hG rfl rfl ?_
      refine q_aload_n hG rfl rfl ?_
      refine q_callV6 hG rfl rfl rfl h178 (s_R_thrown hm9 ht9 ?_)
      refine q_iload hG rfl rfl ?_
      refine q_icmp_eq hG rfl ⟨by omega, by omega⟩ ⟨by omega, by omega⟩ (fun _ => ?_) (fun q => absurd (by decide) q)
      refine q_iload hG rfl rfl ?_
      refine q_if_ne hG rfl ⟨by omega, by omega⟩ (fun _ => ?_) (fun q => absurd (by decide) q)
      refine q_goto hG rfl ?_
      exact hend _ _ _ _ _ (INV.of hb hKI u sC sM2 f g (hWI.up))
set_option maxRecDepth 100000 in
theorem lc_42 {d : Nat} {Post : Out → HP → Prop} {G : Nat → LV → List Value → HP → Prop} (hG : Cl (Sp (d + 21)) md_L_law Post G) {N L : Nat} {B : HP} {I : IM} (hI : INV N L B I) (hN : N ≤ 512) {i : Nat} (hi : i + 5 ≤ L) (hL : L ≤ 2560) (hend : ∀ (B2 : HP) (K : IM) (l6 l7 l8 : Option Value), INV (N + 1) L B2 K → G 2835 [some (.ref (BIG + 20)), some (.ref 0), some (.ref 178), some (.ref 184), some (.ref 185), some (.int (i3 (i : Int))), l6, l7, l8] [] (wI B2 K)) (l6 l7 l8 : Option Value) : G 2288 [some (.ref (BIG + 20)), some (.ref 0), some (.ref 178), some (.ref 184), some (.ref 185), some (.int (i3 (i : Int))), l6, l7, l8] [] (wI B I) := by
  obtain ⟨R, c, h, sv, SR, eo, why, det, cau, o, l, hb, hKI, sC0, sM0, hWI⟩ := hI
  have hb0 := hb
  obtain ⟨hX, hm, hk4, hd4, h20, hn1, hw1, hv0⟩ := hb0
  have h0 := hX.1
  have h178 := hm.1
  have hW := hWI.1
  have w0 := hW.1
  have w1 := hW.2.1
  have hq : 20000 * (N : Int) ≤ 2000000000 := by omega
  have hC := sC0.1
  have hR := hC.1
  have hrW := hWI.2.2.2.1
  obtain ⟨x1, e1⟩ : ∃ v, I (BIG + 20) (i + 1) = v := ⟨_, rfl⟩
  have r1 : r32 x1 := e1 ▸ hKI.2.2.2 (i + 1)
  have ra1 := r1.1
  have rb1 := r1.2
  refine q_aload_n hG rfl rfl ?_
  refine q_aload_n hG rfl rfl ?_
  refine q_iload hG rfl rfl ?_
  refine q_iconst (v := 1) hG rfl rfl ?_
  refine q_iadd hG rfl ?_
  refine q_iald9v (v := x1) hG rfl h20 ⟨by omega, by omega, by omega⟩ (by rw [show ((i : Int) + 1).toNat = i + 1 by omega]; exact e1) ?_
  refine q_aload_n hG rfl rfl ?_
  refine q_callS0 hG rfl rfl rfl (s_L_writeDoor h0 (fun P y z2 => s_X_writeDoor hX hR hW hq r1 sC0.2.1 hWI.2.2.2.2.2 hKI.1 hKI.2.1 (fun a1 => z2 _ _ ?_) (fun a1 J c1 c2 => y _ _ _ hk4 ?_)))
  · have u : upB B (junk B 6) := upB.junk B
    have f : frX I I := frX.refl I
    have sC := sC0
    have sM := sM0
    have hm9 := hm.cg u.cg
    have h178 := (u.1 178).trans h178
    have h20 := (u.1 (BIG + 20)).trans h20
    have hk9 := (u.1 184).trans hk4
    have hd9 := (u.1 185).trans hd4
    refine q_istore hG rfl rfl ?_
    refine q_aload_n hG rfl rfl ?_
    refine q_aload_n hG rfl rfl ?_
    refine q_iload hG rfl rfl ?_
    refine q_iconst (v := 1) hG rfl rfl ?_
    refine q_iadd hG rfl ?_
    refine q_iald9v (v := x1) hG rfl h20 ⟨by omega, by omega, by omega⟩ (by rw [show ((i : Int) + 1).toNat = i + 1 by omega]; exact e1) ?_
    refine q_callV6 hG rfl rfl rfl h178 (s_R_writeDoor hm9 sM.1.1 hW hq r1 (fun b1 K k1 k2 => ?_) (fun b1 K k1 k2 k3 => ?_))
    · have ht9 := k2
      have sM2 := sM.sth k1
      have g := k1.fM
      refine q_istore hG rfl rfl ?_
      refine q_aload_n hG rfl rfl ?_
      refine q_callV6 hG rfl rfl rfl h178 (s_R_thrown hm9 ht9 ?_)
      refine q_iload hG rfl rfl ?_
      refine q_icmp_eq hG rfl ⟨by omega, by omega⟩ ⟨by omega, by omega⟩ (fun _ => ?_) (fun q => absurd (by decide) q)
      refine q_iload hG rfl rfl ?_
      refine q_if_ne hG rfl ⟨by omega, by omega⟩ (fun _ => ?_) (fun q => absurd (by decide) q)
      refine q_goto hG rfl ?_
      exact hend _ _ _ _ _ (INV.of hb hKI u sC sM2 f g (hWI.up))
    · exfalso
      first | contradiction | omega
  · have u : upB B (sJ B 184 0 (i3 (((doT R x1.toNat).length : Int))).toInt64) := (upB.refl B).J (i3 (((doT R x1.toNat).length : Int))).toInt64
    have hj9 : hJ (sJ B 184 0 (i3 (((doT R x1.toNat).length : Int))).toInt64) 184 0 = (i3 (((doT R x1.toNat).length : Int))).toInt64 := sJ_at B _
    have f : frX I J := fun a ha => c2 a (by have : BIG = 1000000000 := rfl; omega) (by have : BIG = 1000000000 := rfl; omega)
    have sC := sC0.out c1 c2
    have sM := sM0.cls f
    have hm9 := hm.cg u.cg
    have h178 := (u.1 178).trans h178
    have h20 := (u.1 (BIG + 20)).trans h20
    have hk9 := (u.1 184).trans hk4
    have hd9 := (u.1 185).trans hd4
    have e1 : J (BIG + 20) (i + 1) = x1 := by rw [f (BIG + 20) (Or.inr (by omega))]; exact e1
    refine q_istore hG rfl rfl ?_
    refine q_aload_n hG rfl rfl ?_
    refine q_aload_n hG rfl rfl ?_
    refine q_iload hG rfl rfl ?_
    refine q_iconst (v := 1) hG rfl rfl ?_
    refine q_iadd hG rfl ?_
    refine q_iald9v (v := x1) hG rfl h20 ⟨by omega, by omega, by omega⟩ (by rw [show ((i : Int) + 1).toNat = i + 1 by omega]; exact e1) ?_
    refine q_callV6 hG rfl rfl rfl h178 (s_R_writeDoor hm9 sM.1.1 hW hq r1 (fun b1 K k1 k2 => ?_) (fun b1 K k1 k2 k3 => ?_))
    · exfalso
      first | contradiction | omega
    · have ht9 := k2
      have sM2 := sM.out k3 k1
      have g := k1.fM
      refine q_istore hG rfl rfl ?_
      refine q_aload_n hG rfl rfl ?_
      refine q_callV6 hG rfl rfl rfl h178 (s_R_thrown hm9 ht9 ?_)
      refine q_iload hG rfl rfl ?_
      refine q_icmp_eq hG rfl ⟨by omega, by omega⟩ ⟨by omega, by omega⟩ (fun _ => ?_) (fun q => absurd (by decide) q)
      refine q_iload hG rfl rfl ?_
      refine q_if_ne hG rfl ⟨by omega, by omega⟩ (fun q => absurd q (by decide)) (fun _ => ?_)
      refine q_aload_n hG rfl rfl ?_
      refine q_iconst (v := 0) hG rfl rfl ?_
      refine q_laldX hG rfl hk9 hj9 ?_
      refine q_iload hG rfl rfl ?_
      refine q_i2l hG rfl ?_
      refine q_lcmp_same hG rfl ?_
      refine q_if_eq hG rfl ⟨by omega, by omega⟩ (fun _ => ?_) (fun q => absurd (by decide) q)
      refine q_goto hG rfl ?_
      exact hend _ _ _ _ _ (INV.of hb hKI u sC sM2 f g ((hWI.io hWI.2.2.2.2.1 (doT_len hW (by omega))).up))
set_option maxRecDepth 100000 in
theorem lc_43 {d : Nat} {Post : Out → HP → Prop} {G : Nat → LV → List Value → HP → Prop} (hG : Cl (Sp (d + 21)) md_L_law Post G) {N L : Nat} {B : HP} {I : IM} (hI : INV N L B I) (hN : N ≤ 512) {i : Nat} (hi : i + 5 ≤ L) (hL : L ≤ 2560) (hend : ∀ (B2 : HP) (K : IM) (l6 l7 l8 : Option Value), INV (N + 1) L B2 K → G 2835 [some (.ref (BIG + 20)), some (.ref 0), some (.ref 178), some (.ref 184), some (.ref 185), some (.int (i3 (i : Int))), l6, l7, l8] [] (wI B2 K)) (l6 l7 l8 : Option Value) : G 2344 [some (.ref (BIG + 20)), some (.ref 0), some (.ref 178), some (.ref 184), some (.ref 185), some (.int (i3 (i : Int))), l6, l7, l8] [] (wI B I) := by
  obtain ⟨R, c, h, sv, SR, eo, why, det, cau, o, l, hb, hKI, sC0, sM0, hWI⟩ := hI
  have hb0 := hb
  obtain ⟨hX, hm, hk4, hd4, h20, hn1, hw1, hv0⟩ := hb0
  have h0 := hX.1
  have h178 := hm.1
  have hW := hWI.1
  have w0 := hW.1
  have w1 := hW.2.1
  have hq : 20000 * (N : Int) ≤ 2000000000 := by omega
  have hC := sC0.1
  have hR := hC.1
  have hrW := hWI.2.2.2.1
  obtain ⟨x1, e1⟩ : ∃ v, I (BIG + 20) (i + 1) = v := ⟨_, rfl⟩
  have r1 : r32 x1 := e1 ▸ hKI.2.2.2 (i + 1)
  have ra1 := r1.1
  have rb1 := r1.2
  refine q_aload_n hG rfl rfl ?_
  refine q_aload_n hG rfl rfl ?_
  refine q_iload hG rfl rfl ?_
  refine q_iconst (v := 1) hG rfl rfl ?_
  refine q_iadd hG rfl ?_
  refine q_iald9v (v := x1) hG rfl h20 ⟨by omega, by omega, by omega⟩ (by rw [show ((i : Int) + 1).toNat = i + 1 by omega]; exact e1) ?_
  refine q_aload_n hG rfl rfl ?_
  refine q_callS0 hG rfl rfl rfl (s_L_writeConstraint h0 (fun P y z3 => s_X_writeConstraint hX hR hW hq (by omega) r1 sC0.2.1 hWI.2.2.2.2.2 hKI.1 (fun a1 => z3 _ _ ?_) (fun p a1 J c1 c2 => y _ _ _ hk4 ?_)))
  · have u : upB B (junk B 6) := upB.junk B
    have f : frX I I := frX.refl I
    have sC := sC0
    have sM := sM0
    have hm9 := hm.cg u.cg
    have h178 := (u.1 178).trans h178
    have h20 := (u.1 (BIG + 20)).trans h20
    have hk9 := (u.1 184).trans hk4
    have hd9 := (u.1 185).trans hd4
    refine q_istore hG rfl rfl ?_
    refine q_aload_n hG rfl rfl ?_
    refine q_aload_n hG rfl rfl ?_
    refine q_iload hG rfl rfl ?_
    refine q_iconst (v := 1) hG rfl rfl ?_
    refine q_iadd hG rfl ?_
    refine q_iald9v (v := x1) hG rfl h20 ⟨by omega, by omega, by omega⟩ (by rw [show ((i : Int) + 1).toNat = i + 1 by omega]; exact e1) ?_
    refine q_callV6 hG rfl rfl rfl h178 (s_R_writeConstraint hm9 sM.1.1 hW hq (by omega) r1 (fun b1 K k1 k2 => ?_) (fun p2 b1 K k1 k2 k3 => ?_))
    · have ht9 := k2
      have sM2 := sM.sth k1
      have g := k1.fM
      refine q_istore hG rfl rfl ?_
      refine q_aload_n hG rfl rfl ?_
      refine q_callV6 hG rfl rfl rfl h178 (s_R_thrown hm9 ht9 ?_)
      refine q_iload hG rfl rfl ?_
      refine q_icmp_eq hG rfl ⟨by omega, by omega⟩ ⟨by omega, by omega⟩ (fun _ => ?_) (fun q => absurd (by decide) q)
      refine q_iload hG rfl rfl ?_
      refine q_if_ne hG rfl ⟨by omega, by omega⟩ (fun _ => ?_) (fun q => absurd (by decide) q)
      refine q_goto hG rfl ?_
      exact hend _ _ _ _ _ (INV.of hb hKI u sC sM2 f g (hWI.up))
    · exfalso
      exact a1 p2 b1.1 b1.2.1
  · have u : upB B (sJ B 184 0 (i3 (((ruT R p).length : Int))).toInt64) := (upB.refl B).J (i3 (((ruT R p).length : Int))).toInt64
    have hj9 : hJ (sJ B 184 0 (i3 (((ruT R p).length : Int))).toInt64) 184 0 = (i3 (((ruT R p).length : Int))).toInt64 := sJ_at B _
    have f : frX I J := fun a ha => c2 a (by have : BIG = 1000000000 := rfl; omega) (by have : BIG = 1000000000 := rfl; omega)
    have sC := sC0.out c1 c2
    have sM := sM0.cls f
    have hm9 := hm.cg u.cg
    have h178 := (u.1 178).trans h178
    have h20 := (u.1 (BIG + 20)).trans h20
    have hk9 := (u.1 184).trans hk4
    have hd9 := (u.1 185).trans hd4
    have e1 : J (BIG + 20) (i + 1) = x1 := by rw [f (BIG + 20) (Or.inr (by omega))]; exact e1
    refine q_istore hG rfl rfl ?_
    refine q_aload_n hG rfl rfl ?_
    refine q_aload_n hG rfl rfl ?_
    refine q_iload hG rfl rfl ?_
    refine q_iconst (v := 1) hG rfl rfl ?_
    refine q_iadd hG rfl ?_
    refine q_iald9v (v := x1) hG rfl h20 ⟨by omega, by omega, by omega⟩ (by rw [show ((i : Int) + 1).toNat = i + 1 by omega]; exact e1) ?_
    refine q_callV6 hG rfl rfl rfl h178 (s_R_writeConstraint hm9 sM.1.1 hW hq (by omega) r1 (fun b1 K k1 k2 => ?_) (fun p2 b1 K k1 k2 k3 => ?_))
    · exfalso
      exact b1 p a1.1 a1.2.1
    · have ep := fst_u a1 b1
      subst ep
      have ht9 := k2
      have sM2 := sM.out k3 k1
      have g := k1.fM
      refine q_istore hG rfl rfl ?_
      refine q_aload_n hG rfl rfl ?_
      refine q_callV6 hG rfl rfl rfl h178 (s_R_thrown hm9 ht9 ?_)
      refine q_iload hG rfl rfl ?_
      refine q_icmp_eq hG rfl ⟨by omega, by omega⟩ ⟨by omega, by omega⟩ (fun _ => ?_) (fun q => absurd (by decide) q)
      refine q_iload hG rfl rfl ?_
      refine q_if_ne hG rfl ⟨by omega, by omega⟩ (fun q => absurd q (by decide)) (fun _ => ?_)
      refine q_aload_n hG rfl rfl ?_
      refine q_iconst (v := 0) hG rfl rfl ?_
      refine q_laldX hG rfl hk9 hj9 ?_
      refine q_iload hG rfl rfl ?_
      refine q_i2l hG rfl ?_
      refine q_lcmp_same hG rfl ?_
      refine q_if_eq hG rfl ⟨by omega, by omega⟩ (fun _ => ?_) (fun q => absurd (by decide) q)
      refine q_goto hG rfl ?_
      exact hend _ _ _ _ _ (INV.of hb hKI u sC sM2 f g ((hWI.io hWI.2.2.2.2.1 (ruT_len hW (by omega) (by have := a1.1; omega))).up))
set_option maxRecDepth 100000 in
theorem lc_44 {d : Nat} {Post : Out → HP → Prop} {G : Nat → LV → List Value → HP → Prop} (hG : Cl (Sp (d + 21)) md_L_law Post G) {N L : Nat} {B : HP} {I : IM} (hI : INV N L B I) (hN : N ≤ 512) {i : Nat} (hi : i + 5 ≤ L) (hL : L ≤ 2560) (hend : ∀ (B2 : HP) (K : IM) (l6 l7 l8 : Option Value), INV (N + 1) L B2 K → G 2835 [some (.ref (BIG + 20)), some (.ref 0), some (.ref 178), some (.ref 184), some (.ref 185), some (.int (i3 (i : Int))), l6, l7, l8] [] (wI B2 K)) (l6 l7 l8 : Option Value) : G 2400 [some (.ref (BIG + 20)), some (.ref 0), some (.ref 178), some (.ref 184), some (.ref 185), some (.int (i3 (i : Int))), l6, l7, l8] [] (wI B I) := by
  obtain ⟨R, c, h, sv, SR, eo, why, det, cau, o, l, hb, hKI, sC0, sM0, hWI⟩ := hI
  have hb0 := hb
  obtain ⟨hX, hm, hk4, hd4, h20, hn1, hw1, hv0⟩ := hb0
  have h0 := hX.1
  have h178 := hm.1
  have hW := hWI.1
  have w0 := hW.1
  have w1 := hW.2.1
  have hq : 20000 * (N : Int) ≤ 2000000000 := by omega
  have hC := sC0.1
  have hR := hC.1
  have hrW := hWI.2.2.2.1
  obtain ⟨x1, e1⟩ : ∃ v, I (BIG + 20) (i + 1) = v := ⟨_, rfl⟩
  have r1 : r32 x1 := e1 ▸ hKI.2.2.2 (i + 1)
  have ra1 := r1.1
  have rb1 := r1.2
  refine q_aload_n hG rfl rfl ?_
  refine q_aload_n hG rfl rfl ?_
  refine q_iload hG rfl rfl ?_
  refine q_iconst (v := 1) hG rfl rfl ?_
  refine q_iadd hG rfl ?_
  refine q_iald9v (v := x1) hG rfl h20 ⟨by omega, by omega, by omega⟩ (by rw [show ((i : Int) + 1).toNat = i + 1 by omega]; exact e1) ?_
  refine q_aload_n hG rfl rfl ?_
  refine q_callS0 hG rfl rfl rfl (s_L_outputAt h0 (fun P y z2 => s_X_outputAt hX sC0.2.1 hWI.2.2.2.2.2 r1 (fun a1 => z2 _ _ ?_) (fun a1 => y _ _ _ hk4 ?_)))
  · have u : upB B (junk B 6) := upB.junk B
    have f : frX I I := frX.refl I
    have sC := sC0
    have sM := sM0
    have hm9 := hm.cg u.cg
    have h178 := (u.1 178).trans h178
    have h20 := (u.1 (BIG + 20)).trans h20
    have hk9 := (u.1 184).trans hk4
    have hd9 := (u.1 185).trans hd4
    refine q_istore hG rfl rfl ?_
    refine q_aload_n hG rfl rfl ?_
    refine q_aload_n hG rfl rfl ?_
    refine q_iload hG rfl rfl ?_
    refine q_iconst (v := 1) hG rfl rfl ?_
    refine q_iadd hG rfl ?_
    refine q_iald9v (v := x1) hG rfl h20 ⟨by omega, by omega, by omega⟩ (by rw [show ((i : Int) + 1).toNat = i + 1 by omega]; exact e1) ?_
    refine q_callV6 hG rfl rfl rfl h178 (s_R_outputAt hm9 sM.2.1 (Nat.le_trans hWI.2.2.2.2.2 (by decide)) r1 (fun b1 K k1 k2 => ?_) (fun b1 K k1 k2 => ?_))
    · have ht9 := k2
      have sM2 := sM.sth k1
      have g := k1.fM
      refine q_istore hG rfl rfl ?_
      refine q_aload_n hG rfl rfl ?_
      refine q_callV6 hG rfl rfl rfl h178 (s_R_thrown hm9 ht9 ?_)
      refine q_iload hG rfl rfl ?_
      refine q_icmp_eq hG rfl ⟨by omega, by omega⟩ ⟨by omega, by omega⟩ (fun _ => ?_) (fun q => absurd (by decide) q)
      refine q_iload hG rfl rfl ?_
      refine q_if_ne hG rfl ⟨by omega, by omega⟩ (fun _ => ?_) (fun q => absurd (by decide) q)
      refine q_goto hG rfl ?_
      exact hend _ _ _ _ _ (INV.of hb hKI u sC sM2 f g (hWI.up))
    · exfalso
      first | contradiction | omega
  · have u : upB B (sJ B 184 0 (i3 (o.getD x1.toNat 0)).toInt64) := (upB.refl B).J (i3 (o.getD x1.toNat 0)).toInt64
    have hj9 : hJ (sJ B 184 0 (i3 (o.getD x1.toNat 0)).toInt64) 184 0 = (i3 (o.getD x1.toNat 0)).toInt64 := sJ_at B _
    have f : frX I I := frX.refl I
    have sC := sC0
    have sM := sM0
    have hm9 := hm.cg u.cg
    have h178 := (u.1 178).trans h178
    have h20 := (u.1 (BIG + 20)).trans h20
    have hk9 := (u.1 184).trans hk4
    have hd9 := (u.1 185).trans hd4
    refine q_istore hG rfl rfl ?_
    refine q_aload_n hG rfl rfl ?_
    refine q_aload_n hG rfl rfl ?_
    refine q_iload hG rfl rfl ?_
    refine q_iconst (v := 1) hG rfl rfl ?_
    refine q_iadd hG rfl ?_
    refine q_iald9v (v := x1) hG rfl h20 ⟨by omega, by omega, by omega⟩ (by rw [show ((i : Int) + 1).toNat = i + 1 by omega]; exact e1) ?_
    refine q_callV6 hG rfl rfl rfl h178 (s_R_outputAt hm9 sM.2.1 (Nat.le_trans hWI.2.2.2.2.2 (by decide)) r1 (fun b1 K k1 k2 => ?_) (fun b1 K k1 k2 => ?_))
    · exfalso
      first | contradiction | omega
    · have ht9 := k2
      have sM2 := sM.sth k1
      have g := k1.fM
      refine q_istore hG rfl rfl ?_
      refine q_aload_n hG rfl rfl ?_
      refine q_callV6 hG rfl rfl rfl h178 (s_R_thrown hm9 ht9 ?_)
      refine q_iload hG rfl rfl ?_
      refine q_icmp_eq hG rfl ⟨by omega, by omega⟩ ⟨by omega, by omega⟩ (fun _ => ?_) (fun q => absurd (by decide) q)
      refine q_iload hG rfl rfl ?_
      refine q_if_ne hG rfl ⟨by omega, by omega⟩ (fun q => absurd q (by decide)) (fun _ => ?_)
      refine q_aload_n hG rfl rfl ?_
      refine q_iconst (v := 0) hG rfl rfl ?_
      refine q_laldX hG rfl hk9 hj9 ?_
      refine q_iload hG rfl rfl ?_
      refine q_i2l hG rfl ?_
      refine q_lcmp_same hG rfl ?_
      refine q_if_eq hG rfl ⟨by omega, by omega⟩ (fun _ => ?_) (fun q => absurd (by decide) q)
      refine q_goto hG rfl ?_
      exact hend _ _ _ _ _ (INV.of hb hKI u sC sM2 f g (hWI.up))
set_option maxRecDepth 100000 in
theorem lc_45 {d : Nat} {Post : Out → HP → Prop} {G : Nat → LV → List Value → HP → Prop} (hG : Cl (Sp (d + 21)) md_L_law Post G) {N L : Nat} {B : HP} {I : IM} (hI : INV N L B I) (hN : N ≤ 512) {i : Nat} (hi : i + 5 ≤ L) (hL : L ≤ 2560) (hend : ∀ (B2 : HP) (K : IM) (l6 l7 l8 : Option Value), INV (N + 1) L B2 K → G 2835 [some (.ref (BIG + 20)), some (.ref 0), some (.ref 178), some (.ref 184), some (.ref 185), some (.int (i3 (i : Int))), l6, l7, l8] [] (wI B2 K)) (l6 l7 l8 : Option Value) : G 2456 [some (.ref (BIG + 20)), some (.ref 0), some (.ref 178), some (.ref 184), some (.ref 185), some (.int (i3 (i : Int))), l6, l7, l8] [] (wI B I) := by
  obtain ⟨R, c, h, sv, SR, eo, why, det, cau, o, l, hb, hKI, sC0, sM0, hWI⟩ := hI
  have hb0 := hb
  obtain ⟨hX, hm, hk4, hd4, h20, hn1, hw1, hv0⟩ := hb0
  have h0 := hX.1
  have h178 := hm.1
  have hW := hWI.1
  have w0 := hW.1
  have w1 := hW.2.1
  have hq : 20000 * (N : Int) ≤ 2000000000 := by omega
  have hC := sC0.1
  have hR := hC.1
  have hrW := hWI.2.2.2.1
  have hbg : BIG = 1000000000 := rfl
  obtain ⟨v, n, tx⟩ := sC0.2.2
  obtain ⟨x1, e1⟩ : ∃ v, I (BIG + 20) (i + 1) = v := ⟨_, rfl⟩
  have r1 : r32 x1 := e1 ▸ hKI.2.2.2 (i + 1)
  have ra1 := r1.1
  have rb1 := r1.2
  refine q_aload_n hG rfl rfl ?_
  refine q_aload_n hG rfl rfl ?_
  refine q_iload hG rfl rfl ?_
  refine q_iconst (v := 1) hG rfl rfl ?_
  refine q_iadd hG rfl ?_
  refine q_iald9v (v := x1) hG rfl h20 ⟨by omega, by omega, by omega⟩ (by rw [show ((i : Int) + 1).toNat = i + 1 by omega]; exact e1) ?_
  refine q_i2c hG rfl ?_
  refine q_aload_n hG rfl rfl ?_
  refine q_callS0 hG rfl rfl rfl (s_L_appendInput h0 (fun P y z0 z4 => s_X_appendInput hX tx ⟨by omega, by omega⟩ hWI.2.2.2.2.1 (c := x1 % 65536) ⟨by omega, by omega⟩ (fun a1 => z0 _ _ ?_) (fun a1 a2 => z4 _ _ ?_) (fun a1 a2 B2 J v2 n2 tt fx q1 q2 q3 => y _ _ _ ((fx 184 (by omega)).1.trans hk4) ?_)))
  · have u : upB B (junk B 6) := upB.junk B
    have f : frX I I := frX.refl I
    have sC := sC0
    have sM := sM0
    have hm9 := hm.cg u.cg
    have h178 := (u.1 178).trans h178
    have h20 := (u.1 (BIG + 20)).trans h20
    have hk9 := (u.1 184).trans hk4
    have hd9 := (u.1 185).trans hd4
    refine q_istore hG rfl rfl ?_
    refine q_aload_n hG rfl rfl ?_
    refine q_aload_n hG rfl rfl ?_
    refine q_iload hG rfl rfl ?_
    refine q_iconst (v := 1) hG rfl rfl ?_
    refine q_iadd hG rfl ?_
    refine q_iald9v (v := x1) hG rfl h20 ⟨by omega, by omega, by omega⟩ (by rw [show ((i : Int) + 1).toNat = i + 1 by omega]; exact e1) ?_
    refine q_i2c hG rfl ?_
    refine q_callV6 hG rfl rfl rfl h178 (s_R_appendInput hm9 sM.2.2 (c := x1 % 65536) ⟨by omega, by omega⟩ (fun b1 K k1 k2 => ?_) (fun b1 b2 K k1 k2 => ?_) (fun b1 b2 K k1 k2 k3 k4 => ?_))
    · have ht9 := k2
      have sM2 := sM.sth k1
      have g := k1.fM
      refine q_istore hG rfl rfl ?_
      refine q_aload_n hG rfl rfl ?_
      refine q_callV6 hG rfl rfl rfl h178 (s_R_thrown hm9 ht9 ?_)
      refine q_iload hG rfl rfl ?_
      refine q_icmp_eq hG rfl ⟨by omega, by omega⟩ ⟨by omega, by omega⟩ (fun _ => ?_) (fun q => absurd (by decide) q)
      refine q_iload hG rfl rfl ?_
      refine q_if_ne hG rfl ⟨by omega, by omega⟩ (fun _ => ?_) (fun q => absurd (by decide) q)
      refine q_goto hG rfl ?_
      exact hend _ _ _ _ _ (INV.of hb hKI u sC sM2 f g (hWI.up))
    · exfalso
      first | contradiction | omega
    · exfalso
      first | contradiction | omega
  · have u : upB B (junk B 6) := upB.junk B
    have f : frX I I := frX.refl I
    have sC := sC0
    have sM := sM0
    have hm9 := hm.cg u.cg
    have h178 := (u.1 178).trans h178
    have h20 := (u.1 (BIG + 20)).trans h20
    have hk9 := (u.1 184).trans hk4
    have hd9 := (u.1 185).trans hd4
    refine q_istore hG rfl rfl ?_
    refine q_aload_n hG rfl rfl ?_
    refine q_aload_n hG rfl rfl ?_
    refine q_iload hG rfl rfl ?_
    refine q_iconst (v := 1) hG rfl rfl ?_
    refine q_iadd hG rfl ?_
    refine q_iald9v (v := x1) hG rfl h20 ⟨by omega, by omega, by omega⟩ (by rw [show ((i : Int) + 1).toNat = i + 1 by omega]; exact e1) ?_
    refine q_i2c hG rfl ?_
    refine q_callV6 hG rfl rfl rfl h178 (s_R_appendInput hm9 sM.2.2 (c := x1 % 65536) ⟨by omega, by omega⟩ (fun b1 K k1 k2 => ?_) (fun b1 b2 K k1 k2 => ?_) (fun b1 b2 K k1 k2 k3 k4 => ?_))
    · exfalso
      first | contradiction | omega
    · have ht9 := k2
      have sM2 := sM.sth k1
      have g := k1.fM
      refine q_istore hG rfl rfl ?_
      refine q_aload_n hG rfl rfl ?_
      refine q_callV6 hG rfl rfl rfl h178 (s_R_thrown hm9 ht9 ?_)
      refine q_iload hG rfl rfl ?_
      refine q_icmp_eq hG rfl ⟨by omega, by omega⟩ ⟨by omega, by omega⟩ (fun _ => ?_) (fun q => absurd (by decide) q)
      refine q_iload hG rfl rfl ?_
      refine q_if_ne hG rfl ⟨by omega, by omega⟩ (fun _ => ?_) (fun q => absurd (by decide) q)
      refine q_goto hG rfl ?_
      exact hend _ _ _ _ _ (INV.of hb hKI u sC sM2 f g (hWI.up))
    · exfalso
      first | contradiction | omega
  · have t4 := tx.2.2.2.1
    have f : frX I J := fun a ha => q3 a (by omega) (by omega) (by omega)
    have sM := sM0.cls f
    have hm9 : oM (sJ B2 184 0 (i3 ((l.length : Int) + 1)).toInt64) 178 := hm.cg fx.cg
    have h178 := (fx 178 (by omega)).1.trans h178
    have h20 := (fx (BIG + 20) (by omega)).1.trans h20
    have hk9 := (fx 184 (by omega)).1.trans hk4
    have hd9 := (fx 185 (by omega)).1.trans hd4
    have hj9 : hJ (sJ B2 184 0 (i3 ((l.length : Int) + 1)).toInt64) 184 0 = (i3 ((l.length : Int) + 1)).toInt64 := sJ_at B2 _
    have e1 : J (BIG + 20) (i + 1) = x1 := by rw [f (BIG + 20) (Or.inr (by omega))]; exact e1
    refine q_istore hG rfl rfl ?_
    refine q_aload_n hG rfl rfl ?_
    refine q_aload_n hG rfl rfl ?_
    refine q_iload hG rfl rfl ?_
    refine q_iconst (v := 1) hG rfl rfl ?_
    refine q_iadd hG rfl ?_
    refine q_iald9v (v := x1) hG rfl h20 ⟨by omega, by omega, by omega⟩ (by rw [show ((i : Int) + 1).toNat = i + 1 by omega]; exact e1) ?_
    refine q_i2c hG rfl ?_
    refine q_callV6 hG rfl rfl rfl h178 (s_R_appendInput hm9 sM.2.2 (c := x1 % 65536) ⟨by omega, by omega⟩ (fun b1 K k1 k2 => ?_) (fun b1 b2 K k1 k2 => ?_) (fun b1 b2 K k1 k2 k3 k4 => ?_))
    · exfalso
      first | contradiction | omega
    · exfalso
      first | contradiction | omega
    · have ht9 := k2
      have sM2 := sM.inp k1 k3 k4
      have g : frM J K := fun a ha => k3 a (by omega) (by omega)
      refine q_istore hG rfl rfl ?_
      refine q_aload_n hG rfl rfl ?_
      refine q_callV6 hG rfl rfl rfl h178 (s_R_thrown hm9 ht9 ?_)
      refine q_iload hG rfl rfl ?_
      refine q_icmp_eq hG rfl ⟨by omega, by omega⟩ ⟨by omega, by omega⟩ (fun _ => ?_) (fun q => absurd (by decide) q)
      refine q_iload hG rfl rfl ?_
      refine q_if_ne hG rfl ⟨by omega, by omega⟩ (fun q => absurd q (by decide)) (fun _ => ?_)
      refine q_aload_n hG rfl rfl ?_
      refine q_iconst (v := 0) hG rfl rfl ?_
      refine q_laldX hG rfl hk9 hj9 ?_
      refine q_iload hG rfl rfl ?_
      refine q_i2l hG rfl ?_
      refine q_lcmp_same hG rfl ?_
      refine q_if_eq hG rfl ⟨by omega, by omega⟩ (fun _ => ?_) (fun q => absurd (by decide) q)
      refine q_goto hG rfl ?_
      exact hend _ _ _ _ _ (INV.app hb hKI fx q1 q2 _ tt sC0 (fun a ha => q3 a (by omega) (by omega) (by omega)) sM2 f g (hWI.io (by rw [List.length_append]; exact a2) hWI.2.2.2.2.2).up)
set_option maxRecDepth 100000 in
theorem lc_46 {d : Nat} {Post : Out → HP → Prop} {G : Nat → LV → List Value → HP → Prop} (hG : Cl (Sp (d + 21)) md_L_law Post G) {N L : Nat} {B : HP} {I : IM} (hI : INV N L B I) (hN : N ≤ 512) {i : Nat} (hi : i + 5 ≤ L) (hL : L ≤ 2560) (hend : ∀ (B2 : HP) (K : IM) (l6 l7 l8 : Option Value), INV (N + 1) L B2 K → G 2835 [some (.ref (BIG + 20)), some (.ref 0), some (.ref 178), some (.ref 184), some (.ref 185), some (.int (i3 (i : Int))), l6, l7, l8] [] (wI B2 K)) (l6 l7 l8 : Option Value) : G 2514 [some (.ref (BIG + 20)), some (.ref 0), some (.ref 178), some (.ref 184), some (.ref 185), some (.int (i3 (i : Int))), l6, l7, l8] [] (wI B I) := by
  obtain ⟨R, c, h, sv, SR, eo, why, det, cau, o, l, hb, hKI, sC0, sM0, hWI⟩ := hI
  have hb0 := hb
  obtain ⟨hX, hm, hk4, hd4, h20, hn1, hw1, hv0⟩ := hb0
  have h0 := hX.1
  have h178 := hm.1
  have hW := hWI.1
  have w0 := hW.1
  have w1 := hW.2.1
  have hq : 20000 * (N : Int) ≤ 2000000000 := by omega
  have hC := sC0.1
  have hR := hC.1
  have hrW := hWI.2.2.2.1
  obtain ⟨v, n, tx⟩ := sC0.2.2
  have hl60 := hWI.2.2.2.2.1
  refine q_aload_n hG rfl rfl ?_
  refine q_aload_n hG rfl rfl ?_
  refine q_callS0 hG rfl rfl rfl (s_L_execute h0 (fun P y z0 z4 z1 => s_P_execute hX hC hW (by omega) tx hWI.2.2.2.2.1 hKI.2.2.1 (fun e a1 J c1 c2 c3 => z0 _ _ ?_) (fun M R2 a1 a2 a3 a4 J c1 c2 c3 => y _ _ _ hk4 ?_) (fun M dd r e a1 a2 a3 J c1 c2 c3 => z1 _ _ ?_) (fun M dd a1 a2 a3 J c1 c2 c3 => z4 _ _ ?_)))
  · have u : upB B (junk B 6) := upB.junk B
    have f : frX I J := fun a ha => c3 a (by have : BIG = 1000000000 := rfl; omega)
    have sC := sC0.exe c1 tx c2 c3
    have sM := sM0.cls f
    have hm9 := hm.cg u.cg
    have h178 := (u.1 178).trans h178
    have h20 := (u.1 (BIG + 20)).trans h20
    have hk9 := (u.1 184).trans hk4
    have hd9 := (u.1 185).trans hd4
    refine q_istore hG rfl rfl ?_
    refine q_aload_n hG rfl rfl ?_
    refine q_callV6 hG rfl rfl rfl h178 (s_R_execute hm9 sM.1 hW (by omega) sM.2.2 (fun e2 b1 K k1 k2 k3 k4 => ?_) (fun M2 R3 b1 b2 K k1 k2 k3 k4 => ?_) (fun M2 d2 r2 e2 b1 b2 b3 K k1 k2 k3 k4 => ?_) (fun M2 d2 b1 b2 b3 K k1 k2 k3 k4 => ?_))
    · have ep := outF.one a1 b1
      subst ep
      have el := outF_le a1
      have ht9 := k2
      have sM2 := sM.exe k1 k3 k4
      have g := k4.fM
      refine q_istore hG rfl rfl ?_
      refine q_aload_n hG rfl rfl ?_
      refine q_callV6 hG rfl rfl rfl h178 (s_R_thrown hm9 ht9 ?_)
      refine q_iload hG rfl rfl ?_
      refine q_icmp_eq hG rfl ⟨by omega, by omega⟩ ⟨by omega, by omega⟩ (fun _ => ?_) (fun q => absurd (by decide) q)
      refine q_iload hG rfl rfl ?_
      refine q_if_ne hG rfl ⟨by omega, by omega⟩ (fun _ => ?_) (fun q => absurd (by decide) q)
      refine q_goto hG rfl ?_
      exact hend _ _ _ _ _ (INV.of hb hKI u sC sM2 f g ((hWI.io (l' := []) (Nat.zero_le _) hWI.2.2.2.2.2).syn ⟨by omega, by omega⟩))
    · exfalso
      exact outS.noF b1 a1
    · exfalso
      exact outS.noF b1 a1
    · exfalso
      exact outS.noF b1 a1
  · have u : upB B (sJ B 184 0 (i3 (((M + 1 : Nat) : Int))).toInt64) := (upB.refl B).J (i3 (((M + 1 : Nat) : Int))).toInt64
    have hj9 : hJ (sJ B 184 0 (i3 (((M + 1 : Nat) : Int))).toInt64) 184 0 = (i3 (((M + 1 : Nat) : Int))).toInt64 := sJ_at B _
    have f : frX I J := fun a ha => c3 a (by have : BIG = 1000000000 := rfl; omega)
    have sC := sC0.exe c1 tx c2 c3
    have sM := sM0.cls f
    have hm9 := hm.cg u.cg
    have h178 := (u.1 178).trans h178
    have h20 := (u.1 (BIG + 20)).trans h20
    have hk9 := (u.1 184).trans hk4
    have hd9 := (u.1 185).trans hd4
    refine q_istore hG rfl rfl ?_
    refine q_aload_n hG rfl rfl ?_
    refine q_callV6 hG rfl rfl rfl h178 (s_R_execute hm9 sM.1 hW (by omega) sM.2.2 (fun e2 b1 K k1 k2 k3 k4 => ?_) (fun M2 R3 b1 b2 K k1 k2 k3 k4 => ?_) (fun M2 d2 r2 e2 b1 b2 b3 K k1 k2 k3 k4 => ?_) (fun M2 d2 b1 b2 b3 K k1 k2 k3 k4 => ?_))
    · exfalso
      exact outS.noF a1 b1
    · have ep := outS.one a1 b1
      subst ep
      have eq2 := Sum.inl.inj (a3.symm.trans b2)
      subst eq2
      have ht9 := k2
      have sM2 := sM.exe k1 k3 k4
      have g := k4.fM
      refine q_istore hG rfl rfl ?_
      refine q_aload_n hG rfl rfl ?_
      refine q_callV6 hG rfl rfl rfl h178 (s_R_thrown hm9 ht9 ?_)
      refine q_iload hG rfl rfl ?_
      refine q_icmp_eq hG rfl ⟨by omega, by omega⟩ ⟨by omega, by omega⟩ (fun _ => ?_) (fun q => absurd (by decide) q)
      refine q_iload hG rfl rfl ?_
      refine q_if_ne hG rfl ⟨by omega, by omega⟩ (fun q => absurd q (by decide)) (fun _ => ?_)
      refine q_aload_n hG rfl rfl ?_
      refine q_iconst (v := 0) hG rfl rfl ?_
      refine q_laldX hG rfl hk9 hj9 ?_
      refine q_iload hG rfl rfl ?_
      refine q_i2l hG rfl ?_
      refine q_lcmp_same hG rfl ?_
      refine q_if_eq hG rfl ⟨by omega, by omega⟩ (fun _ => ?_) (fun q => absurd (by decide) q)
      refine q_goto hG rfl ?_
      exact hend _ _ _ _ _ (INV.of hb hKI u sC sM2 f g ((hWI.io (l' := []) (Nat.zero_le _) hWI.2.2.2.2.2).chg (a4.up (by omega))))
    · exfalso
      have ep := outS.one a1 b1; subst ep; exact b3.no (by omega) a3
    · exfalso
      have ep := outS.one a1 b1; subst ep; exact b3.no (by omega) a3
  · have u : upB B (junk B 6) := upB.junk B
    have f : frX I J := fun a ha => c3 a (by have : BIG = 1000000000 := rfl; omega)
    have sC := sC0.exe c1 tx c2 c3
    have sM := sM0.cls f
    have hm9 := hm.cg u.cg
    have h178 := (u.1 178).trans h178
    have h20 := (u.1 (BIG + 20)).trans h20
    have hk9 := (u.1 184).trans hk4
    have hd9 := (u.1 185).trans hd4
    refine q_istore hG rfl rfl ?_
    refine q_aload_n hG rfl rfl ?_
    refine q_callV6 hG rfl rfl rfl h178 (s_R_execute hm9 sM.1 hW (by omega) sM.2.2 (fun e2 b1 K k1 k2 k3 k4 => ?_) (fun M2 R3 b1 b2 K k1 k2 k3 k4 => ?_) (fun M2 d2 r2 e2 b1 b2 b3 K k1 k2 k3 k4 => ?_) (fun M2 d2 b1 b2 b3 K k1 k2 k3 k4 => ?_))
    · exfalso
      exact outS.noF a1 b1
    · exfalso
      have ep := outS.one a1 b1; subst ep; exact a3.no (by omega) b2
    · have ep := outS.one a1 b1
      subst ep
      obtain ⟨ed, eq2⟩ := flA.one a3 b3
      subst ed
      have eq3 := congrArg Prod.fst (Sum.inl.inj eq2)
      have eq3 : r = r2 := eq3
      subst eq3
      have ht9 := k2
      have sM2 := sM.exe k1 k3 k4
      have g := k4.fM
      refine q_istore hG rfl rfl ?_
      refine q_aload_n hG rfl rfl ?_
      refine q_callV6 hG rfl rfl rfl h178 (s_R_thrown hm9 ht9 ?_)
      refine q_iload hG rfl rfl ?_
      refine q_icmp_eq hG rfl ⟨by omega, by omega⟩ ⟨by omega, by omega⟩ (fun _ => ?_) (fun q => absurd (by decide) q)
      refine q_iload hG rfl rfl ?_
      refine q_if_ne hG rfl ⟨by omega, by omega⟩ (fun _ => ?_) (fun q => absurd (by decide) q)
      refine q_goto hG rfl ?_
      exact hend _ _ _ _ _ (INV.of hb hKI u sC sM2 f g ((hWI.io (l' := []) (Nat.zero_le _) hWI.2.2.2.2.2).rej ⟨by decide, by decide⟩))
    · exfalso
      have z := (flA.one a3 b3).2; cases z
  · have u : upB B (junk B 6) := upB.junk B
    have f : frX I J := fun a ha => c3 a (by have : BIG = 1000000000 := rfl; omega)
    have sC := sC0.exe c1 tx c2 c3
    have sM := sM0.cls f
    have hm9 := hm.cg u.cg
    have h178 := (u.1 178).trans h178
    have h20 := (u.1 (BIG + 20)).trans h20
    have hk9 := (u.1 184).trans hk4
    have hd9 := (u.1 185).trans hd4
    refine q_istore hG rfl rfl ?_
    refine q_aload_n hG rfl rfl ?_
    refine q_callV6 hG rfl rfl rfl h178 (s_R_execute hm9 sM.1 hW (by omega) sM.2.2 (fun e2 b1 K k1 k2 k3 k4 => ?_) (fun M2 R3 b1 b2 K k1 k2 k3 k4 => ?_) (fun M2 d2 r2 e2 b1 b2 b3 K k1 k2 k3 k4 => ?_) (fun M2 d2 b1 b2 b3 K k1 k2 k3 k4 => ?_))
    · exfalso
      exact outS.noF a1 b1
    · exfalso
      have ep := outS.one a1 b1; subst ep; exact a3.no (by omega) b2
    · exfalso
      have z := (flA.one a3 b3).2; cases z
    · have ht9 := k2
      have sM2 := sM.exe k1 k3 k4
      have g := k4.fM
      refine q_istore hG rfl rfl ?_
      refine q_aload_n hG rfl rfl ?_
      refine q_callV6 hG rfl rfl rfl h178 (s_R_thrown hm9 ht9 ?_)
      refine q_iload hG rfl rfl ?_
      refine q_icmp_eq hG rfl ⟨by omega, by omega⟩ ⟨by omega, by omega⟩ (fun _ => ?_) (fun q => absurd (by decide) q)
      refine q_iload hG rfl rfl ?_
      refine q_if_ne hG rfl ⟨by omega, by omega⟩ (fun _ => ?_) (fun q => absurd (by decide) q)
      refine q_goto hG rfl ?_
      exact hend _ _ _ _ _ (INV.of hb hKI u sC sM2 f g ((hWI.io (l' := []) (Nat.zero_le _) hWI.2.2.2.2.2).up))
