/-! the law's body: the peace, the totals, a turn, all turns -/
section
variable {S : SpecT} {M : MDT} {Post : Out → HP → Prop} {G : Nat → LV → List Value → HP → Prop} {pc nx : Nat} {cst : Int32} {x : List Nat} {L : LV} {r : List Value}
theorem q_icmp_same (hG : Cl S M Post G) {A : HP} {j : _} {t : Nat} {v : Int32} (hl : lk pc M.1 = some (.if_icmp .eq j, nx, cst, t :: x)) (h : G t L r A) : G pc L (.int v :: .int v :: r) A := hG _ _ _ _ (by
  unfold stepP
  rw [hl]
  exact ⟨fun _ => h, fun q => absurd rfl q⟩)
end
theorem fs2_fin : ∀ a : Fin 7, ∀ b : Fin 6, Op.cmpValue (FP.fcmp (FP.fdiv (FP.i2f (Int32.ofInt (a.val : Int))) (FP.i2f (Int32.ofInt ((b.val : Int) + 1)))) (FP.fdiv (FP.i2f (Int32.ofInt (a.val : Int))) (FP.i2f (Int32.ofInt ((b.val : Int) + 1))))) .l = 0 := by decide +kernel
theorem fs2_ok {q : Int} {R : RW} (hW : WfR q R) (h : 0 < R 0) : Op.cmpValue (FP.fcmp (fsV R) (fsV R)) .l = 0 := by
  have b := fxR_bd hW
  have w0 := hW.1
  have h9 := fs2_fin ⟨(fxR R).toNat, by omega⟩ ⟨(R 0 - 1).toNat, by omega⟩
  dsimp only at h9
  rw [show (((fxR R).toNat : Nat) : Int) = fxR R by omega, show (((R 0 - 1).toNat : Nat) : Int) + 1 = R 0 by omega] at h9
  exact h9
set_option maxRecDepth 100000 in
theorem lw_D1 {d : Nat} {Post : Out → HP → Prop} {G : Nat → LV → List Value → HP → Prop} (hG : Cl (Sp (d + 19)) md_L_law Post G) {M L : Nat} {R : RW} {B : HP} {I : IM} (t : TI M L 4 R B I) (hM : M + 60 ≤ 5000) {tn : Nat} {f5 f6 f7 z9 : Int} {l10 l11 l12 l13 l14 l15 l16 l17 : Option Value} {b : Nat → Int} (hb : PH R z9 b) (hz9 : ¬ z9 = 0)  (hend : ∀ (J : IM) (l10 l11 l12 l13 l14 l15 l16 l17 : Option Value), TI M L 4 R B J → G 1113 [some (.ref (BIG + 20)), some (.ref 0), some (.int (i3 (tn : Int))), some (.int (i3 (R 0))), some (.int (i3 (R 1))), some (.int (i3 f5)), some (.int (i3 f6)), some (.int (i3 f7)), some (.int (i3 0)), some (.int (i3 z9)), l10, l11, l12, l13, l14, l15, l16, l17] [] (wI B J)) : G 916 [some (.ref (BIG + 20)), some (.ref 0), some (.int (i3 (tn : Int))), some (.int (i3 (R 0))), some (.int (i3 (R 1))), some (.int (i3 f5)), some (.int (i3 f6)), some (.int (i3 f7)), some (.int (i3 0)), some (.int (i3 z9)), l10, l11, l12, l13, l14, l15, l16, l17] [] (wI B I) := by
  have b0 := t.b0
  have b1 := t.b1
  have dd := t.dd
  have hX9 := t.lx.1
  have nn := t.nn
  have hz := hb.z
  have hfp := hb.fp hz9
  have f1 := fp_in hfp 0 (by omega)
  have f2 := fp_in hfp 1 (by omega)
  have d1 := t.door (k := 0) (by omega)
  have d2 := t.door (k := 1) (by omega)
  have e0 : 5 + 4 * 0 + 2 = 7 := rfl
  have l3 : ∀ (mz : Nat) (h : Int) (I : IM) (l14 l15 l16 l17 : Option Value), (b 1 - h).toNat = mz → (0 ≤ h ∧ h ≤ 50) → TI M L 4 R B I → G 998 [some (.ref (BIG + 20)), some (.ref 0), some (.int (i3 (tn : Int))), some (.int (i3 (R 0))), some (.int (i3 (R 1))), some (.int (i3 f5)), some (.int (i3 f6)), some (.int (i3 f7)), some (.int (i3 0)), some (.int (i3 z9)), some (.int (i3 (b 0))), some (.int (i3 (b 1))), some (.int (i3 (sm b (R 0).toNat))), some (.int (i3 (h))), l14, l15, l16, l17] [] (wI B I) := by
    intro mz
    induction mz using Nat.strongRecOn with
    | ind mz ih =>
      intro h I l14 l15 l16 l17 hme hh t
      refine q_iload hG rfl rfl ?_
      refine q_iload hG rfl rfl ?_
      refine q_icmp_ge hG rfl ⟨by omega, by omega⟩ ⟨by omega, by omega⟩ (fun hc1002 => ?_) (fun hc1002 => ?_)
      · refine q_aload_n hG rfl rfl ?_
        refine q_iconst (v := 0) hG rfl rfl ?_
        refine q_iload hG rfl rfl ?_
        refine q_iconst (v := 1) hG rfl rfl ?_
        refine q_iload hG rfl rfl ?_
        refine q_callV6 hG rfl rfl rfl hX9 (t_arePos t (x := 0) (y := 1) (u := b 0) (v := b 1) (by omega) (by omega) ⟨by omega, by omega⟩ ⟨by omega, by omega⟩ (fun e J t9 => ?_) (fun e J t9 => absurd (fp_pos hfp) e))
        refine q_if_eq hG rfl ⟨by omega, by omega⟩ (fun q => absurd q (by decide)) (fun _ => ?_)
        refine q_aload_n hG rfl rfl ?_
        refine q_iconst (v := 0) hG rfl rfl ?_
        refine q_iload hG rfl rfl ?_
        refine q_iconst (v := 0) hG rfl rfl ?_
        refine q_iload hG rfl rfl ?_
        refine q_iconst (v := 1) hG rfl rfl ?_
        refine q_iadd hG rfl ?_
        refine q_bipush (v := 41) hG rfl rfl ?_
        refine q_iremP hG rfl ⟨by omega, by omega⟩ ⟨by omega, by omega⟩ (fun v1050 w1050 u1050 => ?_)
        refine q_callV6 hG rfl rfl rfl hX9 (t_arePos t9 (x := 0) (y := 0) (u := b 0) (v := v1050) (by omega) (by omega) ⟨by omega, by omega⟩ ⟨by omega, by omega⟩ (fun e J t10 => absurd (pos_eq e) (by omega)) (fun e2 J t10 => ?_))
        refine q_if_ne hG rfl ⟨by omega, by omega⟩ (fun q => absurd q (by decide)) (fun _ => ?_)
        refine q_aload_n hG rfl rfl ?_
        refine q_callS0 hG rfl rfl rfl (s_L_sum t10 hfp (fun J4 t11 => ?_))
        refine q_iload hG rfl rfl ?_
        refine q_icmp_same hG rfl ?_
        refine q_goto hG rfl ?_
        exact hend J4 _ _ _ _ _ _ _ _ t11
      · refine q_aload_n hG rfl rfl ?_
        refine q_iconst (v := 0) hG rfl rfl ?_
        refine q_iload hG rfl rfl ?_
        refine q_iconst (v := 1) hG rfl rfl ?_
        refine q_iload hG rfl rfl ?_
        refine q_callV6 hG rfl rfl rfl hX9 (t_arePos t (x := 0) (y := 1) (u := b 0) (v := h) (by omega) (by omega) ⟨by omega, by omega⟩ ⟨by omega, by omega⟩ (fun e J t9 => absurd (fp_lo2 hfp (by omega) e) (by omega)) (fun e J t9 => ?_))
        refine q_if_eq hG rfl ⟨by omega, by omega⟩ (fun _ => ?_) (fun q => absurd (by decide) q)
        refine q_iinc (c := 3) hG rfl rfl rfl rfl ?_
        refine q_goto hG rfl ?_
        exact ih _ (by omega) (h + 3) _ _ _ _ _ rfl (by omega) t9
  have l2 : ∀ (mz : Nat) (h : Int) (I : IM) (l14 l15 l16 l17 : Option Value), (b 0 - h).toNat = mz → (0 ≤ h ∧ h ≤ 50) → TI M L 4 R B I → G 967 [some (.ref (BIG + 20)), some (.ref 0), some (.int (i3 (tn : Int))), some (.int (i3 (R 0))), some (.int (i3 (R 1))), some (.int (i3 f5)), some (.int (i3 f6)), some (.int (i3 f7)), some (.int (i3 0)), some (.int (i3 z9)), some (.int (i3 (b 0))), some (.int (i3 (b 1))), some (.int (i3 (sm b (R 0).toNat))), some (.int (i3 (h))), l14, l15, l16, l17] [] (wI B I) := by
    intro mz
    induction mz using Nat.strongRecOn with
    | ind mz ih =>
      intro h I l14 l15 l16 l17 hme hh t
      refine q_iload hG rfl rfl ?_
      refine q_iload hG rfl rfl ?_
      refine q_icmp_ge hG rfl ⟨by omega, by omega⟩ ⟨by omega, by omega⟩ (fun hc971 => ?_) (fun hc971 => ?_)
      · refine q_iconst (v := 0) hG rfl rfl ?_
        refine q_istore hG rfl rfl ?_
        exact l3 _ 0 _ _ _ _ _ rfl (by omega) t
      · refine q_aload_n hG rfl rfl ?_
        refine q_iconst (v := 0) hG rfl rfl ?_
        refine q_iload hG rfl rfl ?_
        refine q_iconst (v := 0) hG rfl rfl ?_
        refine q_iload hG rfl rfl ?_
        refine q_callV6 hG rfl rfl rfl hX9 (t_arePos t (x := 0) (y := 0) (u := h) (v := h) (by omega) (by omega) ⟨by omega, by omega⟩ ⟨by omega, by omega⟩ (fun e J t9 => absurd (fp_lo hfp (by omega) e) (by omega)) (fun e J t9 => ?_))
        refine q_if_eq hG rfl ⟨by omega, by omega⟩ (fun _ => ?_) (fun q => absurd (by decide) q)
        refine q_iinc (c := 3) hG rfl rfl rfl rfl ?_
        refine q_goto hG rfl ?_
        exact ih _ (by omega) (h + 3) _ _ _ _ _ rfl (by omega) t9
  have l1 : ∀ (mz : Nat) (k : Nat) (I : IM) (l14 l15 l16 l17 : Option Value), 6 - k = mz → (k : Int) ≤ R 0 → TI M L 4 R B I → G 941 [some (.ref (BIG + 20)), some (.ref 0), some (.int (i3 (tn : Int))), some (.int (i3 (R 0))), some (.int (i3 (R 1))), some (.int (i3 f5)), some (.int (i3 f6)), some (.int (i3 f7)), some (.int (i3 0)), some (.int (i3 z9)), some (.int (i3 (b 0))), some (.int (i3 (b 1))), some (.int (i3 (sm b k))), some (.int (i3 ((k : Int)))), l14, l15, l16, l17] [] (wI B I) := by
    intro mz
    induction mz using Nat.strongRecOn with
    | ind mz ih =>
      intro k I l14 l15 l16 l17 hme hk t
      refine q_iload hG rfl rfl ?_
      refine q_iload_n hG rfl rfl ?_
      refine q_icmp_ge hG rfl ⟨by omega, by omega⟩ ⟨by omega, by omega⟩ (fun hc944 => ?_) (fun hc944 => ?_)
      · have ek : (R 0).toNat = k := by omega
        rw [← ek]
        refine q_iconst (v := 0) hG rfl rfl ?_
        refine q_istore hG rfl rfl ?_
        exact l2 _ 0 _ _ _ _ _ rfl (by omega) t
      · refine q_iload hG rfl rfl ?_
        refine q_aload_n hG rfl rfl ?_
        refine q_iload hG rfl rfl ?_
        refine q_callV6 hG rfl rfl rfl hX9 (t_peace t (by omega) hfp (fun J t9 => ?_))
        refine q_iadd hG rfl ?_
        refine q_istore hG rfl rfl ?_
        refine q_iinc (c := 1) hG rfl rfl rfl rfl ?_
        refine q_goto hG rfl ?_
        rw [show (k : Int) + 1 = ((k + 1 : Nat) : Int) by omega]
        exact ih _ (by omega) (k + 1) _ _ _ _ _ rfl (by omega) t9
  refine q_iload hG rfl rfl ?_
  refine q_if_eq hG rfl ⟨by omega, by omega⟩ (fun hc918 => absurd hc918 (by omega)) (fun hc918 => ?_)
  refine q_aload_n hG rfl rfl ?_
  refine q_iconst (v := 0) hG rfl rfl ?_
  refine q_callV6 hG rfl rfl rfl hX9 (t_peace t (x := 0) (by omega) hfp (fun J1 t1 => ?_))
  refine q_istore hG rfl rfl ?_
  refine q_aload_n hG rfl rfl ?_
  refine q_iconst (v := 1) hG rfl rfl ?_
  refine q_callV6 hG rfl rfl rfl hX9 (t_peace t1 (x := 1) (by omega) hfp (fun J2 t2 => ?_))
  refine q_istore hG rfl rfl ?_
  refine q_iconst (v := 0) hG rfl rfl ?_
  refine q_istore hG rfl rfl ?_
  refine q_iconst (v := 0) hG rfl rfl ?_
  refine q_istore hG rfl rfl ?_
  exact l1 _ 0 _ _ _ _ _ rfl (by omega) t2
set_option maxRecDepth 100000 in
theorem lw_D0 {d : Nat} {Post : Out → HP → Prop} {G : Nat → LV → List Value → HP → Prop} (hG : Cl (Sp (d + 19)) md_L_law Post G) {M L : Nat} {R : RW} {B : HP} {I : IM} (t : TI M L 4 R B I) (hM : M + 60 ≤ 5000) {tn : Nat} {f5 f6 f7 z9 : Int} {l10 l11 l12 l13 l14 l15 l16 l17 : Option Value} {b : Nat → Int} (hb : PH R z9 b) (hz9 : z9 = 0)  (hend : ∀ (C : HP) (J : IM), TI (M + 2) L 4 R C J → G 1113 [some (.ref (BIG + 20)), some (.ref 0), some (.int (i3 (tn : Int))), some (.int (i3 (R 0))), some (.int (i3 (R 1))), some (.int (i3 f5)), some (.int (i3 f6)), some (.int (i3 f7)), some (.int (i3 0)), some (.int (i3 z9)), l10, l11, l12, l13, l14, l15, l16, l17] [] (wI C J)) : G 916 [some (.ref (BIG + 20)), some (.ref 0), some (.int (i3 (tn : Int))), some (.int (i3 (R 0))), some (.int (i3 (R 1))), some (.int (i3 f5)), some (.int (i3 f6)), some (.int (i3 f7)), some (.int (i3 0)), some (.int (i3 z9)), l10, l11, l12, l13, l14, l15, l16, l17] [] (wI B I) := by
  have b0 := t.b0
  have b1 := t.b1
  have dd := t.dd
  have hX9 := t.lx.1
  have nn := t.nn
  have hz := hb.z
  have hno := hb.no hz9
  have d1 := t.door (k := 0) (by omega)
  have d2 := t.door (k := 1) (by omega)
  refine q_iload hG rfl rfl ?_
  refine q_if_eq hG rfl ⟨by omega, by omega⟩ (fun hc918 => ?_) (fun hc918 => absurd (by omega) hc918)
  refine q_aload_n hG rfl rfl ?_
  refine q_iconst (v := 0) hG rfl rfl ?_
  refine q_aload_n hG rfl rfl ?_
  refine q_iconst (v := 0) hG rfl rfl ?_
  refine q_callV6 hG rfl rfl rfl hX9 (t_low t (x := 0) (by omega) ?_)
  refine q_iconst (v := 1) hG rfl rfl ?_
  refine q_aload_n hG rfl rfl ?_
  refine q_iconst (v := 1) hG rfl rfl ?_
  refine q_callV6 hG rfl rfl rfl hX9 (t_low t (x := 1) (by omega) ?_)
  refine q_callV6 hG rfl rfl rfl hX9 (t_arePos t (x := 0) (y := 1) (u := R (5 + 4 * 0 + 2)) (v := R (5 + 4 * 1 + 2)) (by omega) (by omega) ⟨by omega, by omega⟩ ⟨by omega, by omega⟩ (fun e J t9 => (pos_no hno e).elim) (fun e J t1 => ?_))
  refine q_if_ne hG rfl ⟨by omega, by omega⟩ (fun q => absurd q (by decide)) (fun _ => ?_)
  refine q_aload_n hG rfl rfl ?_
  refine q_callS0 hG rfl rfl rfl (s_L_noSum t1 (by omega) hno (fun C2 J2 t2 => ?_))
  refine q_sipush (v := -30000) hG rfl rfl ?_
  refine q_icmp_ne hG rfl ⟨by omega, by omega⟩ ⟨by omega, by omega⟩ (fun q => absurd q (by decide)) (fun _ => ?_)
  refine q_aload_n hG rfl rfl ?_
  refine q_iconst (v := 0) hG rfl rfl ?_
  refine q_callS0 hG rfl rfl rfl (s_L_noPeace t2 (by omega) (x := 0) (by omega) hno (fun C3 J3 t3 => ?_))
  refine q_sipush (v := -30000) hG rfl rfl ?_
  refine q_icmp_eq hG rfl ⟨by omega, by omega⟩ ⟨by omega, by omega⟩ (fun _ => ?_) (fun q => absurd (by decide) q)
  exact hend C3 J3 t3
set_option maxRecDepth 100000 in
theorem lw_E {d : Nat} {Post : Out → HP → Prop} {G : Nat → LV → List Value → HP → Prop} (hG : Cl (Sp (d + 19)) md_L_law Post G) {M L : Nat} {R : RW} {B : HP} {I : IM} (t : TI M L 4 R B I) (hM : M + 60 ≤ 5000) {tn : Nat} {f5 f6 f7 z9 : Int} {l10 l11 l12 l13 l14 l15 l16 l17 : Option Value}  (hend : ∀ (C : HP) (J : IM), TI (M + 4) L 4 R C J → G 1230 [some (.ref (BIG + 20)), some (.ref 0), some (.int (i3 (tn : Int))), some (.int (i3 (R 0))), some (.int (i3 (R 1))), some (.int (i3 (fxR R))), some (.int (i3 (twR R))), some (.int (i3 (tfR R))), some (.int (i3 0)), some (.int (i3 z9)), l10, l11, l12, l13, l14, l15, l16, l17] [] (wI C J)) : G 1113 [some (.ref (BIG + 20)), some (.ref 0), some (.int (i3 (tn : Int))), some (.int (i3 (R 0))), some (.int (i3 (R 1))), some (.int (i3 (fxR R))), some (.int (i3 (twR R))), some (.int (i3 (tfR R))), some (.int (i3 0)), some (.int (i3 z9)), l10, l11, l12, l13, l14, l15, l16, l17] [] (wI B I) := by
  have b0 := t.b0
  have b1 := t.b1
  have dd := t.dd
  have hX9 := t.lx.1
  have nn := t.nn
  have wb := wc_bd t.wf
  refine q_aload_n hG rfl rfl ?_
  refine q_callV6 hG rfl rfl rfl hX9 (t_settled t (fun e J t1 => ?_) (fun e J t1 => ?_))
  · refine q_aload_n hG rfl rfl ?_
    refine q_callS0 hG rfl rfl rfl (s_L_would t1 (by omega) (fun C2 J2 t2 => ?_))
    have hX2 := t2.lx.1
    refine q_if_ne hG rfl ⟨by omega, by omega⟩ (fun hc1121 => ?_) (fun hc1121 => ?_)
    · refine q_iconst (v := 0) hG rfl rfl ?_
      refine q_icmp_ne hG rfl ⟨by omega, by omega⟩ ⟨by omega, by omega⟩ (fun _ => ?_) (fun q => absurd (by decide) q)
      refine q_iconst (v := 0) hG rfl rfl ?_
      refine q_iret5 hG rfl rfl (by decide) ?_
      omega
    · refine q_iconst (v := 1) hG rfl rfl ?_
      refine q_goto hG rfl ?_
      refine q_icmp_ne hG rfl ⟨by omega, by omega⟩ ⟨by omega, by omega⟩ (fun q => absurd q (by decide)) (fun _ => ?_)
      refine q_aload_n hG rfl rfl ?_
      refine q_callV6 hG rfl rfl rfl hX2 (t_fixedCount t2 ?_)
      refine q_iload hG rfl rfl ?_
      refine q_icmpne_same hG rfl ?_
      refine q_aload_n hG rfl rfl ?_
      refine q_callV6 hG rfl rfl rfl hX2 (t_totalWidth t2 ?_)
      refine q_iload hG rfl rfl ?_
      refine q_icmpne_same hG rfl ?_
      refine q_aload_n hG rfl rfl ?_
      refine q_callV6 hG rfl rfl rfl hX2 (t_totalFrame t2 ?_)
      refine q_iload hG rfl rfl ?_
      refine q_icmpne_same hG rfl ?_
      refine q_aload_n hG rfl rfl ?_
      refine q_callV6 hG rfl rfl rfl hX2 (t_mean t2 (by omega) ?_)
      refine q_iload hG rfl rfl ?_
      refine q_i2d hG rfl ?_
      refine q_iload_n hG rfl rfl ?_
      refine q_i2d hG rfl ?_
      refine q_ddiv hG rfl (mw_ok t.wf (by omega)).1 ?_
      refine q_dcmp hG rfl ?_
      rw [show Op.cmpValue (FP.dcmp (mwV R) (FP.ddiv (FP.i2d (i3 (twR R))) (FP.i2d (i3 (R 0))))) .l = i3 0 from (mw_ok t.wf (by omega)).2]
      refine q_if_ne hG rfl ⟨by omega, by omega⟩ (fun hc1170 => absurd hc1170 (by omega)) (fun hc1170 => ?_)
      refine q_aload_n hG rfl rfl ?_
      refine q_callV6 hG rfl rfl rfl hX2 (t_share t2 (by omega) ?_)
      refine q_iload hG rfl rfl ?_
      refine q_i2f hG rfl ?_
      refine q_iload_n hG rfl rfl ?_
      refine q_i2f hG rfl ?_
      refine q_fdiv hG rfl (fs_ok t.wf (by omega)).1 ?_
      refine q_fcmp hG rfl ?_
      rw [show Op.cmpValue (FP.fcmp (fsV R) (FP.fdiv (FP.i2f (i3 (fxR R))) (FP.i2f (i3 (R 0))))) .l = i3 0 from fs2_ok t.wf (by omega)]
      refine q_if_ne hG rfl ⟨by omega, by omega⟩ (fun hc1184 => absurd hc1184 (by omega)) (fun hc1184 => ?_)
      refine q_aload_n hG rfl rfl ?_
      refine q_callV6 hG rfl rfl rfl hX2 (t_consistent t2 (fun J3 t3 => ?_))
      refine q_if_eq hG rfl ⟨by omega, by omega⟩ (fun q => absurd q (by decide)) (fun _ => ?_)
      refine q_aload_n hG rfl rfl ?_
      refine q_iload_n hG rfl rfl ?_
      refine q_callS0 hG rfl rfl rfl (s_L_noDoor t3 (by omega) (fun C4 J4 t4 => ?_))
      refine q_sipush (v := -30000) hG rfl rfl ?_
      refine q_icmp_ne hG rfl ⟨by omega, by omega⟩ ⟨by omega, by omega⟩ (fun q => absurd q (by decide)) (fun _ => ?_)
      refine q_aload_n hG rfl rfl ?_
      refine q_iload hG rfl rfl ?_
      refine q_callS0 hG rfl rfl rfl (s_L_noGap t4 (by omega) (fun C5 J5 t5 => ?_))
      refine q_sipush (v := -30000) hG rfl rfl ?_
      refine q_icmp_ne hG rfl ⟨by omega, by omega⟩ ⟨by omega, by omega⟩ (fun q => absurd q (by decide)) (fun _ => ?_)
      refine q_aload_n hG rfl rfl ?_
      refine q_iconst (v := -1) hG rfl rfl ?_
      refine q_callS0 hG rfl rfl rfl (s_L_noAt t5 (by omega) (fun C6 J6 t6 => ?_))
      refine q_sipush (v := -30000) hG rfl rfl ?_
      refine q_icmp_eq hG rfl ⟨by omega, by omega⟩ ⟨by omega, by omega⟩ (fun _ => ?_) (fun q => absurd (by decide) q)
      exact hend C6 J6 t6
  · refine q_aload_n hG rfl rfl ?_
    refine q_callS0 hG rfl rfl rfl (s_L_would t1 (by omega) (fun C2 J2 t2 => ?_))
    have hX2 := t2.lx.1
    refine q_if_ne hG rfl ⟨by omega, by omega⟩ (fun hc1121 => ?_) (fun hc1121 => ?_)
    · refine q_iconst (v := 0) hG rfl rfl ?_
      refine q_icmp_ne hG rfl ⟨by omega, by omega⟩ ⟨by omega, by omega⟩ (fun q => absurd q (by decide)) (fun _ => ?_)
      refine q_aload_n hG rfl rfl ?_
      refine q_callV6 hG rfl rfl rfl hX2 (t_fixedCount t2 ?_)
      refine q_iload hG rfl rfl ?_
      refine q_icmpne_same hG rfl ?_
      refine q_aload_n hG rfl rfl ?_
      refine q_callV6 hG rfl rfl rfl hX2 (t_totalWidth t2 ?_)
      refine q_iload hG rfl rfl ?_
      refine q_icmpne_same hG rfl ?_
      refine q_aload_n hG rfl rfl ?_
      refine q_callV6 hG rfl rfl rfl hX2 (t_totalFrame t2 ?_)
      refine q_iload hG rfl rfl ?_
      refine q_icmpne_same hG rfl ?_
      refine q_aload_n hG rfl rfl ?_
      refine q_callV6 hG rfl rfl rfl hX2 (t_mean t2 (by omega) ?_)
      refine q_iload hG rfl rfl ?_
      refine q_i2d hG rfl ?_
      refine q_iload_n hG rfl rfl ?_
      refine q_i2d hG rfl ?_
      refine q_ddiv hG rfl (mw_ok t.wf (by omega)).1 ?_
      refine q_dcmp hG rfl ?_
      rw [show Op.cmpValue (FP.dcmp (mwV R) (FP.ddiv (FP.i2d (i3 (twR R))) (FP.i2d (i3 (R 0))))) .l = i3 0 from (mw_ok t.wf (by omega)).2]
      refine q_if_ne hG rfl ⟨by omega, by omega⟩ (fun hc1170 => absurd hc1170 (by omega)) (fun hc1170 => ?_)
      refine q_aload_n hG rfl rfl ?_
      refine q_callV6 hG rfl rfl rfl hX2 (t_share t2 (by omega) ?_)
      refine q_iload hG rfl rfl ?_
      refine q_i2f hG rfl ?_
      refine q_iload_n hG rfl rfl ?_
      refine q_i2f hG rfl ?_
      refine q_fdiv hG rfl (fs_ok t.wf (by omega)).1 ?_
      refine q_fcmp hG rfl ?_
      rw [show Op.cmpValue (FP.fcmp (fsV R) (FP.fdiv (FP.i2f (i3 (fxR R))) (FP.i2f (i3 (R 0))))) .l = i3 0 from fs2_ok t.wf (by omega)]
      refine q_if_ne hG rfl ⟨by omega, by omega⟩ (fun hc1184 => absurd hc1184 (by omega)) (fun hc1184 => ?_)
      refine q_aload_n hG rfl rfl ?_
      refine q_callV6 hG rfl rfl rfl hX2 (t_consistent t2 (fun J3 t3 => ?_))
      refine q_if_eq hG rfl ⟨by omega, by omega⟩ (fun q => absurd q (by decide)) (fun _ => ?_)
      refine q_aload_n hG rfl rfl ?_
      refine q_iload_n hG rfl rfl ?_
      refine q_callS0 hG rfl rfl rfl (s_L_noDoor t3 (by omega) (fun C4 J4 t4 => ?_))
      refine q_sipush (v := -30000) hG rfl rfl ?_
      refine q_icmp_ne hG rfl ⟨by omega, by omega⟩ ⟨by omega, by omega⟩ (fun q => absurd q (by decide)) (fun _ => ?_)
      refine q_aload_n hG rfl rfl ?_
      refine q_iload hG rfl rfl ?_
      refine q_callS0 hG rfl rfl rfl (s_L_noGap t4 (by omega) (fun C5 J5 t5 => ?_))
      refine q_sipush (v := -30000) hG rfl rfl ?_
      refine q_icmp_ne hG rfl ⟨by omega, by omega⟩ ⟨by omega, by omega⟩ (fun q => absurd q (by decide)) (fun _ => ?_)
      refine q_aload_n hG rfl rfl ?_
      refine q_iconst (v := -1) hG rfl rfl ?_
      refine q_callS0 hG rfl rfl rfl (s_L_noAt t5 (by omega) (fun C6 J6 t6 => ?_))
      refine q_sipush (v := -30000) hG rfl rfl ?_
      refine q_icmp_eq hG rfl ⟨by omega, by omega⟩ ⟨by omega, by omega⟩ (fun _ => ?_) (fun q => absurd (by decide) q)
      exact hend C6 J6 t6
    · refine q_iconst (v := 1) hG rfl rfl ?_
      refine q_goto hG rfl ?_
      refine q_icmp_ne hG rfl ⟨by omega, by omega⟩ ⟨by omega, by omega⟩ (fun _ => ?_) (fun q => absurd (by decide) q)
      refine q_iconst (v := 0) hG rfl rfl ?_
      refine q_iret5 hG rfl rfl (by decide) ?_
      omega
set_option maxRecDepth 100000 in
theorem lw_turn {d : Nat} {Post : Out → HP → Prop} {G : Nat → LV → List Value → HP → Prop} (hG : Cl (Sp (d + 19)) md_L_law Post G) {M L : Nat} {R : RW} {B : HP} {I : IM} (t : TI M L 4 R B I) (hM : M + 700 ≤ 5000) (hL : L ≤ 260) {tn : Nat} (ht : tn < 4) {z9 : Int} {b : Nat → Int} (hb : PH R z9 b) {l11 l12 l13 l14 l15 l16 l17 : Option Value}
    (hend : ∀ (R2 : RW) (C : HP) (J : IM) (l3 l4 l5 l6 l7 l8 l9 l10 l11 l12 l13 l14 l15 l16 l17 : Option Value), TI (M + 400) L 4 R2 C J → G 15 [some (.ref (BIG + 20)), some (.ref 0), some (.int (i3 ((tn + 1 : Nat) : Int))), l3, l4, l5, l6, l7, l8, l9, l10, l11, l12, l13, l14, l15, l16, l17] [] (wI C J)) : G 52 [some (.ref (BIG + 20)), some (.ref 0), some (.int (i3 (tn : Int))), some (.int (i3 (R 0))), some (.int (i3 (R 1))), some (.int (i3 0)), some (.int (i3 0)), some (.int (i3 0)), some (.int (i3 0)), some (.int (i3 z9)), some (.int (i3 (0))), l11, l12, l13, l14, l15, l16, l17] [] (wI B I) := by
  refine lw_doors hG t (by omega) hb (fun C1 J1 l11 l12 l13 l14 l15 l16 l17 t1 => ?_)
  refine lw_cons hG t1 (by omega) hb (fun C2 J2 l10 l11 l12 l13 l14 l15 l16 l17 t2 => ?_)
  have hE : ∀ (C : HP) (J : IM) (l10 l11 l12 l13 l14 l15 l16 l17 : Option Value), TI (M + 330) L 4 R C J → G 1113 [some (.ref (BIG + 20)), some (.ref 0), some (.int (i3 (tn : Int))), some (.int (i3 (R 0))), some (.int (i3 (R 1))), some (.int (i3 (fxR R))), some (.int (i3 (twR R))), some (.int (i3 (tfR R))), some (.int (i3 0)), some (.int (i3 z9)), l10, l11, l12, l13, l14, l15, l16, l17] [] (wI C J) := by
    intro C J l10 l11 l12 l13 l14 l15 l16 l17 t3
    refine lw_E hG t3 (by omega) (f5 := 0) (f6 := 0) (f7 := 0) (fun C4 J4 t4 => ?_)
    refine q_aload_n hG rfl rfl ?_
    refine q_aload_n hG rfl rfl ?_
    refine q_bipush (v := 90) hG rfl rfl ?_
    refine q_iconst (v := 4) hG rfl rfl ?_
    refine q_iload_n hG rfl rfl ?_
    refine q_imul hG rfl ?_
    refine q_iadd hG rfl ?_
    rw [show (90 : Int) + 4 * (tn : Int) = ((90 + 4 * tn : Nat) : Int) by omega]
    refine q_callS0 hG rfl rfl rfl (s_L_acts t4 (by omega) hL (k := 90 + 4 * tn) (by omega) (by omega) (fun R2 C5 J5 t5 => ?_))
    refine q_iinc (c := 1) hG rfl rfl rfl rfl ?_
    rw [show (tn : Int) + 1 = ((tn + 1 : Nat) : Int) by omega]
    refine q_goto hG rfl ?_
    exact hend R2 C5 J5 _ _ _ _ _ _ _ _ _ _ _ _ _ _ _ (t5.up ⟨by omega, by omega⟩)
  by_cases hz : z9 = 0
  · exact lw_D0 hG t2 (by omega) hb hz (fun C3 J3 t3 => hE C3 J3 _ _ _ _ _ _ _ _ (t3.up ⟨by omega, by omega⟩))
  · exact lw_D1 hG t2 (by omega) hb hz (fun J3 l10 l11 l12 l13 l14 l15 l16 l17 t3 => hE _ J3 _ _ _ _ _ _ _ _ (t3.up ⟨by omega, by omega⟩))
set_option maxRecDepth 100000 in
theorem lw_turns {d : Nat} {Post : Out → HP → Prop} {G : Nat → LV → List Value → HP → Prop} (hG : Cl (Sp (d + 19)) md_L_law Post G) {L : Nat} (hL : L ≤ 260) (hp : ∀ (R : RW) (B : HP) (I : IM), TI 2500 L 4 R B I → Post (.inl (some (.int (i3 1)))) (wI B I)) : ∀ (mz tn : Nat) (R : RW) (B : HP) (I : IM) (l3 l4 l5 l6 l7 l8 l9 l10 l11 l12 l13 l14 l15 l16 l17 : Option Value), 4 - tn = mz → tn ≤ 4 → TI (300 + 500 * tn) L 4 R B I → G 15 [some (.ref (BIG + 20)), some (.ref 0), some (.int (i3 (tn : Int))), l3, l4, l5, l6, l7, l8, l9, l10, l11, l12, l13, l14, l15, l16, l17] [] (wI B I) := by
  intro mz
  induction mz using Nat.strongRecOn with
  | ind mz ih =>
    intro tn R B I l3 l4 l5 l6 l7 l8 l9 l10 l11 l12 l13 l14 l15 l16 l17 hme htn t
    have b0 := t.b0
    have hX9 := t.lx.1
    refine q_iload_n hG rfl rfl ?_
    refine q_iconst (v := 4) hG rfl rfl ?_
    refine q_icmp_ge hG rfl ⟨by omega, by omega⟩ ⟨by omega, by omega⟩ (fun hc => ?_) (fun hc => ?_)
    · refine q_iconst (v := 1) hG rfl rfl ?_
      refine q_iret5 hG rfl rfl (by decide) ?_
      exact hp R B I (t.up ⟨by omega, by omega⟩)
    · have hnext : ∀ (R2 : RW) (C : HP) (J : IM) (l3 l4 l5 l6 l7 l8 l9 l10 l11 l12 l13 l14 l15 l16 l17 : Option Value), TI (300 + 500 * tn + 400) L 4 R2 C J → G 15 [some (.ref (BIG + 20)), some (.ref 0), some (.int (i3 ((tn + 1 : Nat) : Int))), l3, l4, l5, l6, l7, l8, l9, l10, l11, l12, l13, l14, l15, l16, l17] [] (wI C J) := fun R2 C J l3 l4 l5 l6 l7 l8 l9 l10 l11 l12 l13 l14 l15 l16 l17 t5 => ih _ (by omega) (tn + 1) R2 C J l3 l4 l5 l6 l7 l8 l9 l10 l11 l12 l13 l14 l15 l16 l17 rfl (by omega) (t5.up ⟨by omega, by omega⟩)
      refine q_aload_n hG rfl rfl ?_
      refine q_callV6 hG rfl rfl rfl hX9 (t_doors t ?_)
      refine q_istore_n hG rfl rfl ?_
      refine q_aload_n hG rfl rfl ?_
      refine q_callV6 hG rfl rfl rfl hX9 (t_cons t ?_)
      refine q_istore hG rfl rfl ?_
      refine q_iconst (v := 0) hG rfl rfl ?_
      refine q_istore hG rfl rfl ?_
      refine q_iconst (v := 0) hG rfl rfl ?_
      refine q_istore hG rfl rfl ?_
      refine q_iconst (v := 0) hG rfl rfl ?_
      refine q_istore hG rfl rfl ?_
      refine q_iconst (v := 0) hG rfl rfl ?_
      refine q_istore hG rfl rfl ?_
      refine q_aload_n hG rfl rfl ?_
      refine q_callV6 hG rfl rfl rfl hX9 (t_hasPeace t (fun J b hb t2 => ?_) (fun J hno t2 => ?_))
      · refine q_istore hG rfl rfl ?_
        refine q_iconst (v := 0) hG rfl rfl ?_
        refine q_istore hG rfl rfl ?_
        exact lw_turn hG t2 (by omega) hL (by omega) (z9 := 1) (b := b) (Or.inl ⟨rfl, hb⟩) hnext
      · refine q_istore hG rfl rfl ?_
        refine q_iconst (v := 0) hG rfl rfl ?_
        refine q_istore hG rfl rfl ?_
        exact lw_turn hG t2 (by omega) hL (by omega) (z9 := 0) (b := fun _ => 0) (Or.inr ⟨rfl, hno⟩) hnext
