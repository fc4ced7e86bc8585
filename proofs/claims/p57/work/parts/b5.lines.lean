/-! the law's body: a door's line -/
theorem oS.gr {B C : HP} {I J : IM} {s v n : Nat} (h : oS B s v n) (g : gr B I C J) (hs : s < hn B ∧ v < hn B) : oS C s v n := by
  obtain ⟨h1, h2, h3, h4, h5⟩ := h
  obtain ⟨a1, a2, a3⟩ := g.1 s (Or.inl hs.1)
  obtain ⟨b1, b2, b3⟩ := g.1 v (Or.inl hs.2)
  exact ⟨a1.trans h1, (a2 0).trans h2, b1.trans h3, h4, h5⟩
theorem sbT.gr {B C : HP} {I J : IM} {s v : Nat} {l : List Int} (h : sbT I s v l) (g : gr B I C J) (hs : s < hn B ∧ v < hn B) : sbT J s v l := h.row (g.1 s (Or.inl hs.1)).2.2 (g.1 v (Or.inl hs.2)).2.2
theorem TI.fr {M L D : Nat} {R : RW} {B : HP} {I : IM} (t : TI M L D R B I) {J : IM} (f : ∀ a, a < 178 ∨ BIG ≤ a → J a = I a) : TI M L D R B J := by
  obtain ⟨a, b, c, d, e, ⟨c1, h1, sv, SR, eo, why, det, cau, hC⟩, ⟨o, o1, o2⟩, i, j, k⟩ := t
  exact ⟨a, b, c, d, e.mv (fun _ _ => rfl) (fun _ _ _ => rfl) (fun a ha => f a (Or.inr ha)), ⟨c1, h1, sv, SR, eo, why, det, cau, hC.row (fun a ha => f a (by omega))⟩, ⟨o, o1.row (f 158 (by omega)) (f 159 (by omega)), o2⟩, i, j, k⟩
set_option maxRecDepth 100000 in
theorem lw_B5a {d : Nat} {Post : Out → HP → Prop} {G : Nat → LV → List Value → HP → Prop} (hG : Cl (Sp (d + 19)) md_L_law Post G) {M L : Nat} {R : RW} {B : HP} {I : IM} (t : TI M L 4 R B I) (hM : M + 60 ≤ 5000) {tn : Nat} {f5 f6 f7 z9 : Int} {k : Nat} (hk : (k : Int) < R 0) {l15 l16 l17 : Option Value} {s9 : Int}  (hend : ∀ (C : HP) (J : IM) (sb a w zt : Nat) (tx : List Int), TI (M + 10) L 4 R C J → sbT J 158 159 (doT R k) → (doT R k).length ≤ 16 → oS C sb (sb + 1) 16 → (178 ≤ sb ∧ sb + 1 < hn C) → sbT J sb (sb + 1) (doA R k) → oT C J a w zt tx → doA R k ++ tx = doB R k → G 366 [some (.ref (BIG + 20)), some (.ref 0), some (.int (i3 (tn : Int))), some (.int (i3 (R 0))), some (.int (i3 (R 1))), some (.int (i3 f5)), some (.int (i3 f6)), some (.int (i3 f7)), some (.int (i3 0)), some (.int (i3 z9)), some (.int (i3 ((k : Int)))), some (.int (i3 (R (5 + 4 * k + 2)))), some (.int (i3 (R (5 + 4 * k + 3)))), some (.int (i3 (tkR R (k : Int)))), some (.int (i3 (s9))), l15, l16, l17] [.ref a, .ref sb, .int (i3 ((doT R k).length : Int)), .ref 0] (wI C J)) : G 305 [some (.ref (BIG + 20)), some (.ref 0), some (.int (i3 (tn : Int))), some (.int (i3 (R 0))), some (.int (i3 (R 1))), some (.int (i3 f5)), some (.int (i3 f6)), some (.int (i3 f7)), some (.int (i3 0)), some (.int (i3 z9)), some (.int (i3 ((k : Int)))), some (.int (i3 (R (5 + 4 * k + 2)))), some (.int (i3 (R (5 + 4 * k + 3)))), some (.int (i3 (tkR R (k : Int)))), some (.int (i3 (s9))), l15, l16, l17] [] (wI B I) := by
  have b0 := t.b0
  have b1 := t.b1
  have dd := t.dd
  have hX9 := t.lx.1
  have nn := t.nn
  have dk := t.door hk
  have hbg : BIG = 1000000000 := rfl
  have e1 : (decL (k : Int).toNat).length ≤ 1 := decL_le 0 k (by omega)
  have e2 : (decL (R (5 + 4 * k + 2)).toNat).length ≤ 2 := decL_le 1 _ (by omega)
  have e3 : (decL (R (5 + 4 * k + 3)).toNat).length ≤ 2 := decL_le 1 _ (by omega)
  refine q_aload_n hG rfl rfl ?_
  refine q_aload_n hG rfl rfl ?_
  refine q_iload hG rfl rfl ?_
  refine q_callV6 hG rfl rfl rfl hX9 (t_writeDoor t hk (fun J t1 hl hl9 => ?_))
  have nn1 := t1.nn
  refine q_nsb hG rfl rfl rfl rfl (by omega) (fun C1 J1 g1 n1 o1 b1 => ?_)
  have t2 := t1.gr g1 (M' := M + 10) ⟨by omega, by omega, by omega⟩
  refine q_iload hG rfl rfl ?_
  refine q_callV6 hG rfl rfl rfl o1.1 (s_T_num o1 b1 (u := (k : Int)) ⟨by omega, by omega⟩ t2.kc.1 (by omega) (by simp only [List.length_append, List.length_cons, List.length_nil]; omega) (fun J2 b2 f2 => ?_))
  have g2 : gr B J C1 J2 := g1.mv (fun a ha => f2 a (by omega) (by omega))
  have t2 := t1.gr g2 (M' := M + 10) ⟨by omega, by omega, by omega⟩
  refine q_ldcR hG rfl ?_
  refine q_callV6 hG rfl rfl rfl o1.1 (s_T_str (kS.t t2.kc.2.2.1) o1 b2 (by simp only [List.length_append, List.length_cons, List.length_nil]; omega) (fun J3 b3 f3 => ?_))
  have g3 : gr B J C1 J3 := g2.mv (fun a ha => f3 a (by omega) (by omega))
  have t3 := t1.gr g3 (M' := M + 10) ⟨by omega, by omega, by omega⟩
  refine q_iload hG rfl rfl ?_
  refine q_callV6 hG rfl rfl rfl o1.1 (s_T_num o1 b3 (u := R (5 + 4 * k + 2)) ⟨by omega, by omega⟩ t3.kc.1 (by omega) (by simp only [List.length_append, List.length_cons, List.length_nil]; omega) (fun J4 b4 f4 => ?_))
  have g4 : gr B J C1 J4 := g3.mv (fun a ha => f4 a (by omega) (by omega))
  have t4 := t1.gr g4 (M' := M + 10) ⟨by omega, by omega, by omega⟩
  have b4 : sbT J4 (hn B) (hn B + 1) (doA R k) := b4
  refine q_iload hG rfl rfl ?_
  refine q_iload hG rfl rfl ?_
  refine q_icmp_ne hG rfl ⟨by omega, by omega⟩ ⟨by omega, by omega⟩ (fun hc338 => ?_) (fun hc338 => ?_)
  · refine q_nsb hG rfl rfl rfl rfl (by omega) (fun C2 J5 g5 n5 o5 b5 => ?_)
    have t5 := t4.gr g5 (M' := M + 10) ⟨by omega, by omega, by omega⟩
    refine q_ldcR hG rfl ?_
    refine q_callV6 hG rfl rfl rfl o5.1 (s_T_str (kS.t t5.kc.2.2.2.2.1) o5 b5 (by simp only [List.length_append, List.length_cons, List.length_nil]; omega) (fun J6 b6 f6 => ?_))
    have g6 : gr C1 J4 C2 J6 := g5.mv (fun a ha => f6 a (by omega) (by omega))
    have t6 := t4.gr g6 (M' := M + 10) ⟨by omega, by omega, by omega⟩
    refine q_iload hG rfl rfl ?_
    refine q_callV6 hG rfl rfl rfl o5.1 (s_T_num o5 b6 (u := R (5 + 4 * k + 3)) ⟨by omega, by omega⟩ t6.kc.1 (by omega) (by simp only [List.length_append, List.length_cons, List.length_nil]; omega) (fun J7 b7 f7 => ?_))
    have g7 : gr C1 J4 C2 J7 := g6.mv (fun a ha => f7 a (by omega) (by omega))
    refine q_callV6 hG rfl rfl rfl o5.1 (s_T_toS o5 b7 ⟨by omega, by omega⟩ (by omega) (by simp only [List.length_append, List.length_cons, List.length_nil]; omega) (by simp only [List.length_append, List.length_cons, List.length_nil]; omega) (fun C3 J8 g8 n8 x8 => ?_))
    have g9 : gr C1 J4 C3 J8 := g7.trans g8
    have t9 := t4.gr g9 (M' := M + 10) ⟨by omega, by omega, by omega⟩
    exact hend C3 J8 (hn B) _ _ _ _ t9 ((hl.gr g4 ⟨by omega, by omega⟩).gr g9 ⟨by omega, by omega⟩) hl9 (o1.gr g9 ⟨by omega, by omega⟩) ⟨by omega, by omega⟩ (b4.gr g9 ⟨by omega, by omega⟩) x8 (by unfold doB; rw [if_neg (by omega), List.nil_append, List.append_assoc])
  · refine q_ldcR hG rfl ?_
    refine q_goto hG rfl ?_
    exact hend C1 J4 (hn B) _ _ _ [] t4 (hl.gr g4 ⟨by omega, by omega⟩) hl9 o1 ⟨by omega, by omega⟩ b4 (kS.t t4.kc.2.2.2.1) (by rw [List.append_nil]; unfold doB; rw [if_pos (by omega)])
set_option maxRecDepth 100000 in
theorem lw_B5b {d : Nat} {Post : Out → HP → Prop} {G : Nat → LV → List Value → HP → Prop} (hG : Cl (Sp (d + 19)) md_L_law Post G) {M L : Nat} {R : RW} {B : HP} {I : IM} (t : TI M L 4 R B I) (hM : M + 60 ≤ 5000) {tn : Nat} {f5 f6 f7 z9 : Int} {k : Nat} (hk : (k : Int) < R 0) {l15 l16 l17 : Option Value} {s9 : Int} (hs9 : lsK R k s9) {sb a w zt : Nat} {tx : List Int} (hl : sbT I 158 159 (doT R k)) (hl9 : (doT R k).length ≤ 16) (o1 : oS B sb (sb + 1) 16) (hsb : 178 ≤ sb ∧ sb + 1 < hn B) (y1 : sbT I sb (sb + 1) (doA R k)) (hx : oT B I a w zt tx) (hab : doA R k ++ tx = doB R k)  (hend : ∀ (C : HP) (J : IM), TI (M + 4) L 4 R C J → G 400 [some (.ref (BIG + 20)), some (.ref 0), some (.int (i3 (tn : Int))), some (.int (i3 (R 0))), some (.int (i3 (R 1))), some (.int (i3 f5)), some (.int (i3 f6)), some (.int (i3 f7)), some (.int (i3 0)), some (.int (i3 z9)), some (.int (i3 ((k : Int)))), some (.int (i3 (R (5 + 4 * k + 2)))), some (.int (i3 (R (5 + 4 * k + 3)))), some (.int (i3 (tkR R (k : Int)))), some (.int (i3 (s9))), l15, l16, l17] [] (wI C J)) : G 366 [some (.ref (BIG + 20)), some (.ref 0), some (.int (i3 (tn : Int))), some (.int (i3 (R 0))), some (.int (i3 (R 1))), some (.int (i3 f5)), some (.int (i3 f6)), some (.int (i3 f7)), some (.int (i3 0)), some (.int (i3 z9)), some (.int (i3 ((k : Int)))), some (.int (i3 (R (5 + 4 * k + 2)))), some (.int (i3 (R (5 + 4 * k + 3)))), some (.int (i3 (tkR R (k : Int)))), some (.int (i3 (s9))), l15, l16, l17] [.ref a, .ref sb, .int (i3 ((doT R k).length : Int)), .ref 0] (wI B I) := by
  have b0 := t.b0
  have b1 := t.b1
  have dd := t.dd
  have hX9 := t.lx.1
  have nn := t.nn
  have dk := t.door hk
  have hbg : BIG = 1000000000 := rfl
  have eB := doB_len t.wf (x := k) (by omega)
  have eC : (doC R k).length = (doB R k).length + 1 := by unfold doC; rw [List.length_append]; rfl
  have eAB : (doA R k).length + tx.length = (doB R k).length := by rw [← hab, List.length_append]
  have eT : (doT R k).length ≤ 10 := by
    unfold doT
    split
    · omega
    · rw [List.length_append]
      show _ + 1 ≤ 10
      omega
  have hs8 : (s9 = 0 ∨ s9 = 1) := by unfold lsK at hs9; omega
  refine q_callV6 hG rfl rfl rfl o1.1 (s_T_str hx o1 y1 (by omega) (fun J2 b2 f2 => ?_))
  rw [hab] at b2
  have t2 := t.fr (fun a ha => f2 a (by omega) (by omega))
  refine q_ldcR hG rfl ?_
  refine q_callV6 hG rfl rfl rfl o1.1 (s_T_str (kS.t t2.kc.2.2.2.2.2.1) o1 b2 (by show _ + 1 ≤ 16; omega) (fun J3 b3 f3 => ?_))
  have b3 : sbT J3 sb (sb + 1) (doC R k) := b3
  have t3 := t2.fr (fun a ha => f3 a (by omega) (by omega))
  refine q_iload hG rfl rfl ?_
  refine q_if_eq hG rfl ⟨by omega, by omega⟩ (fun hc376 => ?_) (fun hc376 => ?_)
  · refine q_ldcR hG rfl ?_
    refine q_callV6 hG rfl rfl rfl o1.1 (s_T_str (kS.t t3.kc.2.2.2.1) o1 b3 (by show _ + 0 ≤ 16; omega) (fun J4 b4 f4 => ?_))
    have b4 : sbT J4 sb (sb + 1) (doT R k) := by
      have e : doT R k = doC R k ++ [] := by unfold doT; rw [if_pos (by unfold lsK at hs9; omega), List.append_nil]
      rw [e]; exact b4
    refine q_callV6 hG rfl rfl rfl o1.1 (s_T_toS o1 b4 ⟨by omega, by omega⟩ (by omega) (by omega) (by omega) (fun C5 J5 g5 n5 x5 => ?_))
    have h4 : sbT J4 158 159 (doT R k) := hl.row ((f4 158 (by omega) (by omega)).trans ((f3 158 (by omega) (by omega)).trans (f2 158 (by omega) (by omega)))) ((f4 159 (by omega) (by omega)).trans ((f3 159 (by omega) (by omega)).trans (f2 159 (by omega) (by omega))))
    have t4 := t3.fr (fun a ha => f4 a (by omega) (by omega))
    have t5 := t4.gr g5 (M' := M + 4) ⟨by omega, by omega, by omega⟩
    refine q_callS0 hG rfl rfl rfl (s_L_isLine t5.lx (h4.gr g5 ⟨by omega, by omega⟩) hl9 x5 ?_)
    refine q_if_ne hG rfl ⟨by omega, by omega⟩ (fun _ => ?_) (fun q => absurd (by decide) q)
    exact hend C5 J5 t5
  · refine q_ldcR hG rfl ?_
    refine q_goto hG rfl ?_
    refine q_callV6 hG rfl rfl rfl o1.1 (s_T_str (kS.t t3.kc.2.2.2.2.2.2.1) o1 b3 (by show _ + 1 ≤ 16; omega) (fun J4 b4 f4 => ?_))
    have b4 : sbT J4 sb (sb + 1) (doT R k) := by
      have e : doT R k = doC R k ++ [42] := by unfold doT; rw [if_neg (by unfold lsK at hs9; omega)]
      rw [e]; exact b4
    refine q_callV6 hG rfl rfl rfl o1.1 (s_T_toS o1 b4 ⟨by omega, by omega⟩ (by omega) (by omega) (by omega) (fun C5 J5 g5 n5 x5 => ?_))
    have h4 : sbT J4 158 159 (doT R k) := hl.row ((f4 158 (by omega) (by omega)).trans ((f3 158 (by omega) (by omega)).trans (f2 158 (by omega) (by omega)))) ((f4 159 (by omega) (by omega)).trans ((f3 159 (by omega) (by omega)).trans (f2 159 (by omega) (by omega))))
    have t4 := t3.fr (fun a ha => f4 a (by omega) (by omega))
    have t5 := t4.gr g5 (M' := M + 4) ⟨by omega, by omega, by omega⟩
    refine q_callS0 hG rfl rfl rfl (s_L_isLine t5.lx (h4.gr g5 ⟨by omega, by omega⟩) hl9 x5 ?_)
    refine q_if_ne hG rfl ⟨by omega, by omega⟩ (fun _ => ?_) (fun q => absurd (by decide) q)
    exact hend C5 J5 t5
