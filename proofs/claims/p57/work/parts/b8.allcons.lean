/-! the law's body: a constraint's line, the constraints' order, all constraints -/
set_option maxRecDepth 100000 in
theorem lw_C4a {d : Nat} {Post : Out → HP → Prop} {G : Nat → LV → List Value → HP → Prop} (hG : Cl (Sp (d + 19)) md_L_law Post G) {M L : Nat} {R : RW} {B : HP} {I : IM} (t : TI M L 4 R B I) (hM : M + 60 ≤ 5000) {tn : Nat} {f5 f6 f7 z9 : Int} {q : Nat} (hq : (q : Int) < R 1) {l16 l17 : Option Value} {gd bd : Int}  (hend : ∀ (C : HP) (J : IM) (sb a w zt : Nat) (tx : List Int), TI (M + 10) L 4 R C J → sbT J 158 159 (ruT R q) → (ruT R q).length ≤ 16 → oS C sb (sb + 1) 16 → (178 ≤ sb ∧ sb + 1 < hn C) → sbT J sb (sb + 1) (ruA R q) → oT C J a w zt tx → ruA R q ++ tx = ruT R q → G 818 [some (.ref (BIG + 20)), some (.ref 0), some (.int (i3 (tn : Int))), some (.int (i3 (R 0))), some (.int (i3 (R 1))), some (.int (i3 f5)), some (.int (i3 f6)), some (.int (i3 f7)), some (.int (i3 0)), some (.int (i3 z9)), some (.int (i3 ((q : Int)))), some (.int (i3 (R (29 + 5 * q)))), some (.int (i3 (R (29 + 5 * q + 2)))), some (.int (i3 (R (29 + 5 * q + 3)))), some (.int (i3 (gd))), some (.int (i3 (bd))), l16, l17] [.ref a, .ref sb, .int (i3 ((ruT R q).length : Int)), .ref 0] (wI C J)) : G 737 [some (.ref (BIG + 20)), some (.ref 0), some (.int (i3 (tn : Int))), some (.int (i3 (R 0))), some (.int (i3 (R 1))), some (.int (i3 f5)), some (.int (i3 f6)), some (.int (i3 f7)), some (.int (i3 0)), some (.int (i3 z9)), some (.int (i3 ((q : Int)))), some (.int (i3 (R (29 + 5 * q)))), some (.int (i3 (R (29 + 5 * q + 2)))), some (.int (i3 (R (29 + 5 * q + 3)))), some (.int (i3 (gd))), some (.int (i3 (bd))), l16, l17] [] (wI B I) := by
  have b0 := t.b0
  have b1 := t.b1
  have dd := t.dd
  have hX9 := t.lx.1
  have nn := t.nn
  obtain ⟨k1, k2, k3, k4⟩ := t.con hq
  have hi9 := t.id hq
  have hbg : BIG = 1000000000 := rfl
  have e10 : (10 : Nat) ^ (7 + 1) = 100000000 := by decide
  have e1 : (decL (R (29 + 5 * q)).toNat).length ≤ 8 := decL_le 7 _ (by omega)
  have e2 : (decL (R (29 + 5 * q + 2)).toNat).length ≤ 1 := decL_le 0 _ (by omega)
  have e3 : (decL (R (29 + 5 * q + 3)).toNat).length ≤ 1 := decL_le 0 _ (by omega)
  have e4 : (decL (R (29 + 5 * q + 4)).toNat).length ≤ 2 := decL_le 1 _ (by omega)
  refine q_aload_n hG rfl rfl ?_
  refine q_aload_n hG rfl rfl ?_
  refine q_iload hG rfl rfl ?_
  refine q_callV6 hG rfl rfl rfl hX9 (t_writeCon t hq (fun J t0 hl hl9 => ?_))
  have nn0 := t0.nn
  refine q_nsb hG rfl rfl rfl rfl (by omega) (fun C1 J1 g1 n1 o1 y1 => ?_)
  have t1 := t0.gr g1 (M' := M + 10) ⟨by omega, by omega, by omega⟩
  refine q_iload hG rfl rfl ?_
  refine q_callV6 hG rfl rfl rfl o1.1 (s_T_num o1 y1 (u := R (29 + 5 * q)) ⟨by omega, by omega⟩ t1.kc.1 (by omega) (by simp only [List.length_append, List.length_cons, List.length_nil]; omega) (fun J2 y2 f2 => ?_))
  have g2 : gr B J C1 J2 := g1.mv (fun a ha => f2 a (by omega) (by omega))
  have t2 := t0.gr g2 (M' := M + 10) ⟨by omega, by omega, by omega⟩
  refine q_ldcR hG rfl ?_
  refine q_callV6 hG rfl rfl rfl o1.1 (s_T_str (kS.t t2.kc.2.2.2.2.2.2.2.1) o1 y2 (by simp only [List.length_append, List.length_cons, List.length_nil]; omega) (fun J3 y3 f3 => ?_))
  have g3 : gr B J C1 J3 := g2.mv (fun a ha => f3 a (by omega) (by omega))
  have t3 := t0.gr g3 (M' := M + 10) ⟨by omega, by omega, by omega⟩
  refine q_iload hG rfl rfl ?_
  refine q_callV6 hG rfl rfl rfl o1.1 (s_T_num o1 y3 (u := R (29 + 5 * q + 2)) ⟨by omega, by omega⟩ t3.kc.1 (by omega) (by simp only [List.length_append, List.length_cons, List.length_nil]; omega) (fun J4 y4 f4 => ?_))
  have g4 : gr B J C1 J4 := g3.mv (fun a ha => f4 a (by omega) (by omega))
  have t4 := t0.gr g4 (M' := M + 10) ⟨by omega, by omega, by omega⟩
  have hX4 := t4.lx.1
  refine q_aload_n hG rfl rfl ?_
  refine q_iload hG rfl rfl ?_
  refine q_callV6 hG rfl rfl rfl hX4 (t_kind t4 hq ?_)
  refine q_callV6 hG rfl rfl rfl o1.1 (s_J_app o1 y4 (c := R (29 + 5 * q + 1)) ⟨by omega, by omega⟩ (by simp only [List.length_append, List.length_cons, List.length_nil]; omega) (fun J5 y5 f5 => ?_))
  have g5 : gr B J C1 J5 := g4.mv (fun a ha => f5 a (by omega) (by omega))
  have t5 := t0.gr g5 (M' := M + 10) ⟨by omega, by omega, by omega⟩
  refine q_iload hG rfl rfl ?_
  refine q_callV6 hG rfl rfl rfl o1.1 (s_T_num o1 y5 (u := R (29 + 5 * q + 3)) ⟨by omega, by omega⟩ t5.kc.1 (by omega) (by simp only [List.length_append, List.length_cons, List.length_nil]; omega) (fun J6 y6 f6 => ?_))
  have g6 : gr B J C1 J6 := g5.mv (fun a ha => f6 a (by omega) (by omega))
  have t6 := t0.gr g6 (M' := M + 10) ⟨by omega, by omega, by omega⟩
  have hX6 := t6.lx.1
  have y6 : sbT J6 (hn B) (hn B + 1) (ruA R q) := y6
  refine q_aload_n hG rfl rfl ?_
  refine q_iload hG rfl rfl ?_
  refine q_callV6 hG rfl rfl rfl hX6 (t_gap t6 hq ?_)
  refine q_if_le hG rfl ⟨by omega, by omega⟩ (fun hc786 => ?_) (fun hc786 => ?_)
  · refine q_ldcR hG rfl ?_
    exact hend C1 J6 (hn B) _ _ _ [] t6 (hl.gr g6 ⟨by omega, by omega⟩) hl9 o1 ⟨by omega, by omega⟩ y6 (kS.t t6.kc.2.2.2.1) (by rw [List.append_nil]; unfold ruT; rw [if_pos (by omega)])
  · refine q_nsb hG rfl rfl rfl rfl (by omega) (fun C2 J7 g7 n7 o7 y7 => ?_)
    have t7 := t6.gr g7 (M' := M + 10) ⟨by omega, by omega, by omega⟩
    refine q_ldcR hG rfl ?_
    refine q_callV6 hG rfl rfl rfl o7.1 (s_T_str (kS.t t7.kc.2.2.2.2.2.2.2.2) o7 y7 (by simp only [List.length_append, List.length_cons, List.length_nil]; omega) (fun J8 y8 f8 => ?_))
    have g8 : gr C1 J6 C2 J8 := g7.mv (fun a ha => f8 a (by omega) (by omega))
    have t8 := t6.gr g8 (M' := M + 10) ⟨by omega, by omega, by omega⟩
    have hX8 := t8.lx.1
    refine q_aload_n hG rfl rfl ?_
    refine q_iload hG rfl rfl ?_
    refine q_callV6 hG rfl rfl rfl hX8 (t_gap t8 hq ?_)
    refine q_callV6 hG rfl rfl rfl o7.1 (s_T_num o7 y8 (u := R (29 + 5 * q + 4)) ⟨by omega, by omega⟩ t8.kc.1 (by omega) (by simp only [List.length_append, List.length_cons, List.length_nil]; omega) (fun J9 y9 f9 => ?_))
    have g9 : gr C1 J6 C2 J9 := g8.mv (fun a ha => f9 a (by omega) (by omega))
    refine q_callV6 hG rfl rfl rfl o7.1 (s_T_toS o7 y9 ⟨by omega, by omega⟩ (by omega) (by simp only [List.length_append, List.length_cons, List.length_nil]; omega) (by simp only [List.length_append, List.length_cons, List.length_nil]; omega) (fun C3 Ja ga na xa => ?_))
    have gb : gr C1 J6 C3 Ja := g9.trans ga
    have tb := t6.gr gb (M' := M + 10) ⟨by omega, by omega, by omega⟩
    refine q_goto hG rfl ?_
    exact hend C3 Ja (hn B) _ _ _ _ tb ((hl.gr g6 ⟨by omega, by omega⟩).gr gb ⟨by omega, by omega⟩) hl9 (o1.gr gb ⟨by omega, by omega⟩) ⟨by omega, by omega⟩ (y6.gr gb ⟨by omega, by omega⟩) xa (by unfold ruT; rw [if_neg (by omega), List.nil_append, List.append_assoc])
set_option maxRecDepth 100000 in
theorem lw_C4b {d : Nat} {Post : Out → HP → Prop} {G : Nat → LV → List Value → HP → Prop} (hG : Cl (Sp (d + 19)) md_L_law Post G) {M L : Nat} {R : RW} {B : HP} {I : IM} (t : TI M L 4 R B I) (hM : M + 60 ≤ 5000) {tn : Nat} {f5 f6 f7 z9 : Int} {q : Nat} (hq : (q : Int) < R 1) {l16 l17 : Option Value} {gd bd : Int} {sb a w zt : Nat} {tx : List Int} (hl : sbT I 158 159 (ruT R q)) (hl9 : (ruT R q).length ≤ 16) (o1 : oS B sb (sb + 1) 16) (hsb : 178 ≤ sb ∧ sb + 1 < hn B) (y1 : sbT I sb (sb + 1) (ruA R q)) (hx : oT B I a w zt tx) (hab : ruA R q ++ tx = ruT R q)  (hend : ∀ (C : HP) (J : IM), TI (M + 4) L 4 R C J → G 832 [some (.ref (BIG + 20)), some (.ref 0), some (.int (i3 (tn : Int))), some (.int (i3 (R 0))), some (.int (i3 (R 1))), some (.int (i3 f5)), some (.int (i3 f6)), some (.int (i3 f7)), some (.int (i3 0)), some (.int (i3 z9)), some (.int (i3 ((q : Int)))), some (.int (i3 (R (29 + 5 * q)))), some (.int (i3 (R (29 + 5 * q + 2)))), some (.int (i3 (R (29 + 5 * q + 3)))), some (.int (i3 (gd))), some (.int (i3 (bd))), l16, l17] [] (wI C J)) : G 818 [some (.ref (BIG + 20)), some (.ref 0), some (.int (i3 (tn : Int))), some (.int (i3 (R 0))), some (.int (i3 (R 1))), some (.int (i3 f5)), some (.int (i3 f6)), some (.int (i3 f7)), some (.int (i3 0)), some (.int (i3 z9)), some (.int (i3 ((q : Int)))), some (.int (i3 (R (29 + 5 * q)))), some (.int (i3 (R (29 + 5 * q + 2)))), some (.int (i3 (R (29 + 5 * q + 3)))), some (.int (i3 (gd))), some (.int (i3 (bd))), l16, l17] [.ref a, .ref sb, .int (i3 ((ruT R q).length : Int)), .ref 0] (wI B I) := by
  have b0 := t.b0
  have b1 := t.b1
  have dd := t.dd
  have hX9 := t.lx.1
  have nn := t.nn
  obtain ⟨k1, k2, k3, k4⟩ := t.con hq
  have hi9 := t.id hq
  have hbg : BIG = 1000000000 := rfl
  have e10 : (10 : Nat) ^ (7 + 1) = 100000000 := by decide
  have e1 : (decL (R (29 + 5 * q)).toNat).length ≤ 8 := decL_le 7 _ (by omega)
  have e2 : (decL (R (29 + 5 * q + 2)).toNat).length ≤ 1 := decL_le 0 _ (by omega)
  have e3 : (decL (R (29 + 5 * q + 3)).toNat).length ≤ 1 := decL_le 0 _ (by omega)
  have e4 : (decL (R (29 + 5 * q + 4)).toNat).length ≤ 2 := decL_le 1 _ (by omega)
  have eAB : (ruA R q).length + tx.length = (ruT R q).length := by rw [← hab, List.length_append]
  have eT : (ruT R q).length ≤ 15 := by
    have eA : (ruA R q).length ≤ 12 := by unfold ruA; simp only [List.length_append, List.length_cons, List.length_nil]; omega
    unfold ruT
    split
    · omega
    · rw [List.length_append, List.length_append]
      show _ + 1 + _ ≤ 15
      omega
  refine q_callV6 hG rfl rfl rfl o1.1 (s_T_str hx o1 y1 (by omega) (fun J2 y2 f2 => ?_))
  rw [hab] at y2
  have t2 := t.fr (fun a ha => f2 a (by omega) (by omega))
  have h2 : sbT J2 158 159 (ruT R q) := hl.row (f2 158 (by omega) (by omega)) (f2 159 (by omega) (by omega))
  refine q_callV6 hG rfl rfl rfl o1.1 (s_T_toS o1 y2 ⟨by omega, by omega⟩ (by omega) (by omega) (by omega) (fun C5 J5 g5 n5 x5 => ?_))
  have t5 := t2.gr g5 (M' := M + 4) ⟨by omega, by omega, by omega⟩
  refine q_callS0 hG rfl rfl rfl (s_L_isLine t5.lx (h2.gr g5 ⟨by omega, by omega⟩) hl9 x5 ?_)
  refine q_if_ne hG rfl ⟨by omega, by omega⟩ (fun _ => ?_) (fun q => absurd (by decide) q)
  exact hend C5 J5 t5
set_option maxRecDepth 100000 in
theorem lw_C5 {d : Nat} {Post : Out → HP → Prop} {G : Nat → LV → List Value → HP → Prop} (hG : Cl (Sp (d + 19)) md_L_law Post G) {M L : Nat} {R : RW} {B : HP} {I : IM} (t : TI M L 4 R B I) (hM : M + 60 ≤ 5000) {tn : Nat} {f5 f6 f7 z9 : Int} {q : Nat} (hq : (q : Int) < R 1) {l16 l17 : Option Value} {gd bd : Int}  (hend : ∀ m16 m17 : Option Value, G 910 [some (.ref (BIG + 20)), some (.ref 0), some (.int (i3 (tn : Int))), some (.int (i3 (R 0))), some (.int (i3 (R 1))), some (.int (i3 f5)), some (.int (i3 f6)), some (.int (i3 f7)), some (.int (i3 0)), some (.int (i3 z9)), some (.int (i3 ((q : Int)))), some (.int (i3 (R (29 + 5 * q)))), some (.int (i3 (R (29 + 5 * q + 2)))), some (.int (i3 (R (29 + 5 * q + 3)))), some (.int (i3 (gd))), some (.int (i3 (bd))), m16, m17] [] (wI B I)) : G 832 [some (.ref (BIG + 20)), some (.ref 0), some (.int (i3 (tn : Int))), some (.int (i3 (R 0))), some (.int (i3 (R 1))), some (.int (i3 f5)), some (.int (i3 f6)), some (.int (i3 f7)), some (.int (i3 0)), some (.int (i3 z9)), some (.int (i3 ((q : Int)))), some (.int (i3 (R (29 + 5 * q)))), some (.int (i3 (R (29 + 5 * q + 2)))), some (.int (i3 (R (29 + 5 * q + 3)))), some (.int (i3 (gd))), some (.int (i3 (bd))), l16, l17] [] (wI B I) := by
  have b0 := t.b0
  have b1 := t.b1
  have dd := t.dd
  have hX9 := t.lx.1
  have nn := t.nn
  obtain ⟨k1, k2, k3, k4⟩ := t.con hq
  have hi9 := t.id hq
  have hbg : BIG = 1000000000 := rfl
  refine q_iload hG rfl rfl ?_
  refine q_if_ne hG rfl ⟨by omega, by omega⟩ (fun hc834 => ?_) (fun hc834 => ?_)
  · refine q_aload_n hG rfl rfl ?_
    refine q_iload hG rfl rfl ?_
    refine q_iconst (v := 1) hG rfl rfl ?_
    refine q_isub hG rfl ?_
    rw [show (q : Int) - 1 = ((q - 1 : Nat) : Int) by omega]
    refine q_callV6 hG rfl rfl rfl hX9 (t_cbg t (v := q - 1) (by omega) (fun p hp1 hp2 => ?_))
    refine q_istore hG rfl rfl ?_
    refine q_aload_n hG rfl rfl ?_
    refine q_iload hG rfl rfl ?_
    refine q_callV6 hG rfl rfl rfl hX9 (t_cbg t hq (fun p2 hp3 hp4 => ?_))
    have ho := cg_ord R (a := p) (b := p2) (by omega) (by omega) (by rw [hp2, hp4]; omega)
    unfold cgP at ho
    have i1 := t.id hp1
    have i2 := t.id hp3
    obtain ⟨-, -, -, j1⟩ := t.con hp1
    obtain ⟨-, -, -, j2⟩ := t.con hp3
    refine q_istore hG rfl rfl ?_
    refine q_aload_n hG rfl rfl ?_
    refine q_iload hG rfl rfl ?_
    refine q_callV6 hG rfl rfl rfl hX9 (t_gap t hp1 ?_)
    refine q_aload_n hG rfl rfl ?_
    refine q_iload hG rfl rfl ?_
    refine q_callV6 hG rfl rfl rfl hX9 (t_gap t hp3 ?_)
    refine q_icmp_lt hG rfl ⟨by omega, by omega⟩ ⟨by omega, by omega⟩ (fun hc870 => absurd hc870 (by omega)) (fun hc870 => ?_)
    refine q_aload_n hG rfl rfl ?_
    refine q_iload hG rfl rfl ?_
    refine q_callV6 hG rfl rfl rfl hX9 (t_gap t hp1 ?_)
    refine q_aload_n hG rfl rfl ?_
    refine q_iload hG rfl rfl ?_
    refine q_callV6 hG rfl rfl rfl hX9 (t_gap t hp3 ?_)
    refine q_icmp_ne hG rfl ⟨by omega, by omega⟩ ⟨by omega, by omega⟩ (fun hc885 => ?_) (fun hc885 => ?_)
    · have hid2 := asc_lt t.asc q (q - 1) (by omega) hq
      refine q_iload hG rfl rfl ?_
      refine q_aload_n hG rfl rfl ?_
      refine q_iload hG rfl rfl ?_
      refine q_iconst (v := 1) hG rfl rfl ?_
      refine q_isub hG rfl ?_
      rw [show (q : Int) - 1 = ((q - 1 : Nat) : Int) by omega]
      refine q_callV6 hG rfl rfl rfl hX9 (t_conAt t (q := q - 1) (by omega) ?_)
      have i3_ := t.id (q := q - 1) (by omega)
      refine q_icmp_gt hG rfl ⟨by omega, by omega⟩ ⟨by omega, by omega⟩ (fun hc905 => ?_) (fun hc905 => absurd (by omega) hc905)
      exact hend _ _
    · have hid := asc_lt t.asc p2 p (by omega) hp3
      refine q_iload hG rfl rfl ?_
      refine q_iload hG rfl rfl ?_
      refine q_icmp_gt hG rfl ⟨by omega, by omega⟩ ⟨by omega, by omega⟩ (fun hc892 => absurd hc892 (by omega)) (fun hc892 => ?_)
      have hid2 := asc_lt t.asc q (q - 1) (by omega) hq
      refine q_iload hG rfl rfl ?_
      refine q_aload_n hG rfl rfl ?_
      refine q_iload hG rfl rfl ?_
      refine q_iconst (v := 1) hG rfl rfl ?_
      refine q_isub hG rfl ?_
      rw [show (q : Int) - 1 = ((q - 1 : Nat) : Int) by omega]
      refine q_callV6 hG rfl rfl rfl hX9 (t_conAt t (q := q - 1) (by omega) ?_)
      have i3_ := t.id (q := q - 1) (by omega)
      refine q_icmp_gt hG rfl ⟨by omega, by omega⟩ ⟨by omega, by omega⟩ (fun hc905 => ?_) (fun hc905 => absurd (by omega) hc905)
      exact hend _ _
  · refine q_goto hG rfl ?_
    exact hend _ _
set_option maxRecDepth 100000 in
theorem lw_cons {d : Nat} {Post : Out → HP → Prop} {G : Nat → LV → List Value → HP → Prop} (hG : Cl (Sp (d + 19)) md_L_law Post G) {M L : Nat} {R : RW} {B : HP} {I : IM} (t : TI M L 4 R B I) (hM : M + 300 ≤ 5000) {tn : Nat} {f5 f6 f7 z9 : Int} {b : Nat → Int} (hb : PH R z9 b) {l10 l11 l12 l13 l14 l15 l16 l17 : Option Value}
    (hend : ∀ (C : HP) (J : IM) (l10 l11 l12 l13 l14 l15 l16 l17 : Option Value), TI (M + 200) L 4 R C J → G 916 [some (.ref (BIG + 20)), some (.ref 0), some (.int (i3 (tn : Int))), some (.int (i3 (R 0))), some (.int (i3 (R 1))), some (.int (i3 f5)), some (.int (i3 f6)), some (.int (i3 f7)), some (.int (i3 0)), some (.int (i3 z9)), l10, l11, l12, l13, l14, l15, l16, l17] [] (wI C J)) : G 525 [some (.ref (BIG + 20)), some (.ref 0), some (.int (i3 (tn : Int))), some (.int (i3 (R 0))), some (.int (i3 (R 1))), some (.int (i3 f5)), some (.int (i3 f6)), some (.int (i3 f7)), some (.int (i3 0)), some (.int (i3 z9)), l10, l11, l12, l13, l14, l15, l16, l17] [] (wI B I) := by
  have lq : ∀ (mz q : Nat) (B : HP) (I : IM) (l11 l12 l13 l14 l15 l16 l17 : Option Value), 10 - q = mz → (q : Int) ≤ R 1 → TI (M + 20 * q) L 4 R B I → G 528 [some (.ref (BIG + 20)), some (.ref 0), some (.int (i3 (tn : Int))), some (.int (i3 (R 0))), some (.int (i3 (R 1))), some (.int (i3 f5)), some (.int (i3 f6)), some (.int (i3 f7)), some (.int (i3 0)), some (.int (i3 z9)), some (.int (i3 ((q : Int)))), l11, l12, l13, l14, l15, l16, l17] [] (wI B I) := by
    intro mz
    induction mz using Nat.strongRecOn with
    | ind mz ih =>
      intro q B I l11 l12 l13 l14 l15 l16 l17 hme hk t
      have b1 := t.b1
      refine q_iload hG rfl rfl ?_
      refine q_iload hG rfl rfl ?_
      refine q_icmp_ge hG rfl ⟨by omega, by omega⟩ ⟨by omega, by omega⟩ (fun hc => ?_) (fun hc => ?_)
      · exact hend B I _ l11 l12 l13 l14 l15 l16 l17 (t.up ⟨by omega, by omega⟩)
      · have hq : (q : Int) < R 1 := by omega
        refine lw_C1 hG t (by omega) hq ?_
        refine lw_C2 hG t (by omega) hq (fun gd bd m16 m17 h1 h2 h3 h4 => ?_)
        refine lw_C3 hG t (by omega) hq h1 h2 h3 h4 hb (fun J t2 => ?_)
        refine lw_C4a hG t2 (by omega) hq (fun C2 J2 sb a w zt tx t3 hl hl9 o1 hsb y1 hx hab => ?_)
        refine lw_C4b hG t3 (by omega) hq hl hl9 o1 hsb y1 hx hab (fun C3 J3 t4 => ?_)
        refine lw_C5 hG t4 (by omega) hq (fun m16 m17 => ?_)
        refine q_iinc (c := 1) hG rfl rfl rfl rfl ?_
        rw [show (q : Int) + 1 = ((q + 1 : Nat) : Int) by omega]
        refine q_goto hG rfl ?_
        exact ih _ (by omega) (q + 1) _ _ _ _ _ _ _ _ _ rfl (by omega) (t4.up ⟨by omega, by omega⟩)
  refine q_iconst (v := 0) hG rfl rfl ?_
  refine q_istore hG rfl rfl ?_
  exact lq _ 0 _ _ _ _ _ _ _ _ _ rfl (by have := t.b1; omega) (t.up ⟨by omega, by omega⟩)
