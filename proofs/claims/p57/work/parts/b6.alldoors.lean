/-! the law's body: a door's peace, the doors' order, all doors -/
def PH (R : RW) (z : Int) (b : Nat → Int) : Prop := (z = 1 ∧ fpR R b) ∨ (z = 0 ∧ ∀ p, ¬ peS R (ptR R) p)
theorem PH.fp {R : RW} {z : Int} {b : Nat → Int} (h : PH R z b) (e : ¬ z = 0) : fpR R b := by
  rcases h with h | h
  · exact h.2
  · exact absurd h.1 e
theorem PH.no {R : RW} {z : Int} {b : Nat → Int} (h : PH R z b) (e : z = 0) : ∀ p, ¬ peS R (ptR R) p := by
  rcases h with h | h
  · omega
  · exact h.2
theorem PH.z {R : RW} {z : Int} {b : Nat → Int} (h : PH R z b) : z = 0 ∨ z = 1 := by
  rcases h with h | h
  · exact Or.inr h.1
  · exact Or.inl h.1
set_option maxRecDepth 100000 in
theorem lw_B6 {d : Nat} {Post : Out → HP → Prop} {G : Nat → LV → List Value → HP → Prop} (hG : Cl (Sp (d + 19)) md_L_law Post G) {M L : Nat} {R : RW} {B : HP} {I : IM} (t : TI M L 4 R B I) (hM : M + 60 ≤ 5000) {tn : Nat} {f5 f6 f7 z9 : Int} {k : Nat} (hk : (k : Int) < R 0) {l15 l16 l17 : Option Value} {s9 : Int} {b : Nat → Int} (hb : PH R z9 b)  (hend : ∀ J : IM, TI M L 4 R B J → G 429 [some (.ref (BIG + 20)), some (.ref 0), some (.int (i3 (tn : Int))), some (.int (i3 (R 0))), some (.int (i3 (R 1))), some (.int (i3 f5)), some (.int (i3 f6)), some (.int (i3 f7)), some (.int (i3 0)), some (.int (i3 z9)), some (.int (i3 ((k : Int)))), some (.int (i3 (R (5 + 4 * k + 2)))), some (.int (i3 (R (5 + 4 * k + 3)))), some (.int (i3 (tkR R (k : Int)))), some (.int (i3 (s9))), l15, l16, l17] [] (wI B J)) : G 400 [some (.ref (BIG + 20)), some (.ref 0), some (.int (i3 (tn : Int))), some (.int (i3 (R 0))), some (.int (i3 (R 1))), some (.int (i3 f5)), some (.int (i3 f6)), some (.int (i3 f7)), some (.int (i3 0)), some (.int (i3 z9)), some (.int (i3 ((k : Int)))), some (.int (i3 (R (5 + 4 * k + 2)))), some (.int (i3 (R (5 + 4 * k + 3)))), some (.int (i3 (tkR R (k : Int)))), some (.int (i3 (s9))), l15, l16, l17] [] (wI B I) := by
  have b0 := t.b0
  have b1 := t.b1
  have dd := t.dd
  have hX9 := t.lx.1
  have nn := t.nn
  have dk := t.door hk
  have hz := hb.z
  refine q_iload hG rfl rfl ?_
  refine q_if_eq hG rfl ⟨by omega, by omega⟩ (fun hc402 => ?_) (fun hc402 => ?_)
  · exact hend I t
  · have hfp := hb.fp hc402
    have hin := fp_in hfp k (by omega)
    refine q_aload_n hG rfl rfl ?_
    refine q_iload hG rfl rfl ?_
    refine q_callV6 hG rfl rfl rfl hX9 (t_peace t hk hfp (fun J t2 => ?_))
    refine q_iload hG rfl rfl ?_
    refine q_icmp_lt hG rfl ⟨by omega, by omega⟩ ⟨by omega, by omega⟩ (fun hc413 => absurd hc413 (by omega)) (fun hc413 => ?_)
    refine q_aload_n hG rfl rfl ?_
    refine q_iload hG rfl rfl ?_
    refine q_callV6 hG rfl rfl rfl hX9 (t_peace t2 hk hfp (fun J2 t3 => ?_))
    refine q_iload hG rfl rfl ?_
    refine q_icmp_le hG rfl ⟨by omega, by omega⟩ ⟨by omega, by omega⟩ (fun hc424 => ?_) (fun hc424 => absurd (by omega) hc424)
    exact hend J2 t3
set_option maxRecDepth 100000 in
theorem lw_B7 {d : Nat} {Post : Out → HP → Prop} {G : Nat → LV → List Value → HP → Prop} (hG : Cl (Sp (d + 19)) md_L_law Post G) {M L : Nat} {R : RW} {B : HP} {I : IM} (t : TI M L 4 R B I) (hM : M + 60 ≤ 5000) {tn : Nat} {f5 f6 f7 z9 : Int} {k : Nat} (hk : (k : Int) < R 0) {l15 l16 l17 : Option Value} {s9 : Int}  (hend : ∀ m15 m16 m17 : Option Value, G 519 [some (.ref (BIG + 20)), some (.ref 0), some (.int (i3 (tn : Int))), some (.int (i3 (R 0))), some (.int (i3 (R 1))), some (.int (i3 f5)), some (.int (i3 f6)), some (.int (i3 f7)), some (.int (i3 0)), some (.int (i3 z9)), some (.int (i3 ((k : Int)))), some (.int (i3 (R (5 + 4 * k + 2)))), some (.int (i3 (R (5 + 4 * k + 3)))), some (.int (i3 (tkR R (k : Int)))), some (.int (i3 (s9))), m15, m16, m17] [] (wI B I)) : G 429 [some (.ref (BIG + 20)), some (.ref 0), some (.int (i3 (tn : Int))), some (.int (i3 (R 0))), some (.int (i3 (R 1))), some (.int (i3 f5)), some (.int (i3 f6)), some (.int (i3 f7)), some (.int (i3 0)), some (.int (i3 z9)), some (.int (i3 ((k : Int)))), some (.int (i3 (R (5 + 4 * k + 2)))), some (.int (i3 (R (5 + 4 * k + 3)))), some (.int (i3 (tkR R (k : Int)))), some (.int (i3 (s9))), l15, l16, l17] [] (wI B I) := by
  have b0 := t.b0
  have b1 := t.b1
  have dd := t.dd
  have hX9 := t.lx.1
  have nn := t.nn
  have dk := t.door hk
  refine q_iload hG rfl rfl ?_
  refine q_if_ne hG rfl ⟨by omega, by omega⟩ (fun hc431 => ?_) (fun hc431 => ?_)
  · refine q_aload_n hG rfl rfl ?_
    refine q_iload hG rfl rfl ?_
    refine q_iconst (v := 1) hG rfl rfl ?_
    refine q_isub hG rfl ?_
    rw [show (k : Int) - 1 = ((k - 1 : Nat) : Int) by omega]
    refine q_callV6 hG rfl rfl rfl hX9 (t_dbw t (v := k - 1) (by omega) (fun p hp1 hp2 => ?_))
    refine q_istore hG rfl rfl ?_
    refine q_aload_n hG rfl rfl ?_
    refine q_iload hG rfl rfl ?_
    refine q_callV6 hG rfl rfl rfl hX9 (t_dbw t hk (fun p2 hp3 hp4 => ?_))
    have ho := dw_ord R (a := p) (b := p2) (by omega) (by omega) (by rw [hp2, hp4]; omega)
    unfold ahR at ho
    have q1 := tkR_bd R (p : Int) b1
    have q2 := tkR_bd R (p2 : Int) b1
    have dp := t.door hp1
    have dp2 := t.door hp3
    have ew : wdR R p = R (5 + 4 * p + 3) - R (5 + 4 * p + 2) + 1 := rfl
    have ew2 : wdR R p2 = R (5 + 4 * p2 + 3) - R (5 + 4 * p2 + 2) + 1 := rfl
    refine q_istore hG rfl rfl ?_
    refine q_aload_n hG rfl rfl ?_
    refine q_iload hG rfl rfl ?_
    refine q_callV6 hG rfl rfl rfl hX9 (t_conOf t hp1 ?_)
    refine q_aload_n hG rfl rfl ?_
    refine q_iload hG rfl rfl ?_
    refine q_callV6 hG rfl rfl rfl hX9 (t_conOf t hp3 ?_)
    refine q_isub hG rfl ?_
    refine q_istore hG rfl rfl ?_
    refine q_aload_n hG rfl rfl ?_
    refine q_iload hG rfl rfl ?_
    refine q_callV6 hG rfl rfl rfl hX9 (t_width t hp1 ?_)
    refine q_aload_n hG rfl rfl ?_
    refine q_iload hG rfl rfl ?_
    refine q_callV6 hG rfl rfl rfl hX9 (t_width t hp3 ?_)
    refine q_icmp_gt hG rfl ⟨by omega, by omega⟩ ⟨by omega, by omega⟩ (fun hc482 => ?_) (fun hc482 => ?_)
    · refine q_iconst (v := 0) hG rfl rfl ?_
      refine q_iret5 hG rfl rfl (by decide) ?_
      omega
    · refine q_aload_n hG rfl rfl ?_
      refine q_iload hG rfl rfl ?_
      refine q_callV6 hG rfl rfl rfl hX9 (t_width t hp1 ?_)
      refine q_aload_n hG rfl rfl ?_
      refine q_iload hG rfl rfl ?_
      refine q_callV6 hG rfl rfl rfl hX9 (t_width t hp3 ?_)
      refine q_icmp_ne hG rfl ⟨by omega, by omega⟩ ⟨by omega, by omega⟩ (fun hc497 => ?_) (fun hc497 => ?_)
      · exact hend _ _ _
      · refine q_iload hG rfl rfl ?_
        refine q_if_lt hG rfl ⟨by omega, by omega⟩ (fun hc502 => ?_) (fun hc502 => ?_)
        · refine q_iconst (v := 0) hG rfl rfl ?_
          refine q_iret5 hG rfl rfl (by decide) ?_
          omega
        · refine q_iload hG rfl rfl ?_
          refine q_if_ne hG rfl ⟨by omega, by omega⟩ (fun hc507 => ?_) (fun hc507 => ?_)
          · exact hend _ _ _
          · refine q_iload hG rfl rfl ?_
            refine q_iload hG rfl rfl ?_
            refine q_icmp_le hG rfl ⟨by omega, by omega⟩ ⟨by omega, by omega⟩ (fun hc514 => ?_) (fun hc514 => ?_)
            · exact hend _ _ _
            · refine q_iconst (v := 0) hG rfl rfl ?_
              refine q_iret5 hG rfl rfl (by decide) ?_
              omega
  · refine q_goto hG rfl ?_
    exact hend _ _ _
set_option maxRecDepth 100000 in
theorem lw_doors {d : Nat} {Post : Out → HP → Prop} {G : Nat → LV → List Value → HP → Prop} (hG : Cl (Sp (d + 19)) md_L_law Post G) {M L : Nat} {R : RW} {B : HP} {I : IM} (t : TI M L 4 R B I) (hM : M + 300 ≤ 5000) {tn : Nat} {z9 : Int} {b : Nat → Int} (hb : PH R z9 b) {l11 l12 l13 l14 l15 l16 l17 : Option Value}
    (hend : ∀ (C : HP) (J : IM) (l11 l12 l13 l14 l15 l16 l17 : Option Value), TI (M + 120) L 4 R C J → G 525 [some (.ref (BIG + 20)), some (.ref 0), some (.int (i3 (tn : Int))), some (.int (i3 (R 0))), some (.int (i3 (R 1))), some (.int (i3 (fxR R))), some (.int (i3 (twR R))), some (.int (i3 (tfR R))), some (.int (i3 0)), some (.int (i3 z9)), some (.int (i3 (R 0))), l11, l12, l13, l14, l15, l16, l17] [] (wI C J)) : G 52 [some (.ref (BIG + 20)), some (.ref 0), some (.int (i3 (tn : Int))), some (.int (i3 (R 0))), some (.int (i3 (R 1))), some (.int (i3 0)), some (.int (i3 0)), some (.int (i3 0)), some (.int (i3 0)), some (.int (i3 z9)), some (.int (i3 (0))), l11, l12, l13, l14, l15, l16, l17] [] (wI B I) := by
  have lq : ∀ (mz k : Nat) (B : HP) (I : IM) (f5 f6 f7 : Int) (l11 l12 l13 l14 l15 l16 l17 : Option Value), 6 - k = mz → (k : Int) ≤ R 0 → TI (M + 20 * k) L 4 R B I → f5 = sm (fxK R) k → f6 = sm (wdR R) k → f7 = sm (tfK R) k → G 52 [some (.ref (BIG + 20)), some (.ref 0), some (.int (i3 (tn : Int))), some (.int (i3 (R 0))), some (.int (i3 (R 1))), some (.int (i3 f5)), some (.int (i3 f6)), some (.int (i3 f7)), some (.int (i3 0)), some (.int (i3 z9)), some (.int (i3 ((k : Int)))), l11, l12, l13, l14, l15, l16, l17] [] (wI B I) := by
    intro mz
    induction mz using Nat.strongRecOn with
    | ind mz ih =>
      intro k B I f5 f6 f7 l11 l12 l13 l14 l15 l16 l17 hme hk t h5 h6 h7
      have b0 := t.b0
      refine q_iload hG rfl rfl ?_
      refine q_iload_n hG rfl rfl ?_
      refine q_icmp_ge hG rfl ⟨by omega, by omega⟩ ⟨by omega, by omega⟩ (fun hc => ?_) (fun hc => ?_)
      · have ek : (R 0).toNat = k := by omega
        have z := hend B I l11 l12 l13 l14 l15 l16 l17 (t.up ⟨by omega, by omega⟩)
        rw [show fxR R = f5 by rw [h5]; unfold fxR; rw [ek]; rfl, show twR R = f6 by rw [h6]; unfold twR; rw [ek], show tfR R = f7 by rw [h7]; unfold tfR; rw [ek]; rfl] at z
        rw [show (k : Int) = R 0 by omega]
        exact z
      · have hk2 : (k : Int) < R 0 := by omega
        refine lw_B1 hG t (by omega) hk2 ?_
        refine q_iconst (v := 0) hG rfl rfl ?_
        refine q_istore hG rfl rfl ?_
        refine lw_B2 hG t (by omega) hk2 ?_
        refine lw_B3 hG t (by omega) hk2 h5 h6 h7 (fun g5 g6 g7 s9 e5 e6 e7 hs => ?_)
        refine lw_B4 hG t (by omega) hk2 (fun C J t2 => ?_)
        refine lw_B5a hG t2 (by omega) hk2 (fun C2 J2 sb a w zt tx t3 hl hl9 o1 hsb y1 hx hab => ?_)
        refine lw_B5b hG t3 (by omega) hk2 hs hl hl9 o1 hsb y1 hx hab (fun C3 J3 t4 => ?_)
        refine lw_B6 hG t4 (by omega) hk2 hb (fun J4 t5 => ?_)
        refine lw_B7 hG t5 (by omega) hk2 (fun m15 m16 m17 => ?_)
        refine q_iinc (c := 1) hG rfl rfl rfl rfl ?_
        rw [show (k : Int) + 1 = ((k + 1 : Nat) : Int) by omega]
        refine q_goto hG rfl ?_
        exact ih _ (by omega) (k + 1) _ _ _ _ _ _ _ _ _ _ _ _ rfl (by omega) (t5.up ⟨by omega, by omega⟩) e5 e6 e7
  exact lq _ 0 _ _ 0 0 0 _ _ _ _ _ _ _ rfl (by have := t.b0; omega) (t.up ⟨by omega, by omega⟩) rfl rfl rfl
