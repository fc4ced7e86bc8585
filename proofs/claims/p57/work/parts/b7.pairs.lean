/-! the law's body: a constraint's pairs, its line, the constraints' order, all constraints -/
def Ag (Q : Int → Int → Prop) (lf x ls hs : Int) : Prop := ∀ x2, lf ≤ x2 → x2 < x → ∀ y2, ls ≤ y2 → y2 ≤ hs → Q x2 y2
def Bg (Q : Int → Int → Prop) (x ls y : Int) : Prop := ∀ y2, ls ≤ y2 → y2 < y → Q x y2
theorem Ag_0 (Q : Int → Int → Prop) (lf ls hs : Int) : Ag Q lf lf ls hs := fun x2 a b => by omega
theorem Bg_0 (Q : Int → Int → Prop) (x ls : Int) : Bg Q x ls ls := fun y2 a b => by omega
theorem Ag_s {Q : Int → Int → Prop} {lf x ls hs y : Int} (h : lf ≤ x) (hy : hs < y) (hy2 : y ≤ hs + 1) : Ag Q lf (x + 1) ls hs ↔ Ag Q lf x ls hs ∧ Bg Q x ls y := by
  refine ⟨fun q => ⟨fun x2 a b => q x2 a (by omega), fun y2 a b => q x h (by omega) y2 a (by omega)⟩, fun q x2 a b y2 c e => ?_⟩
  by_cases z : x2 = x
  · rw [z]; exact q.2 y2 c (by omega)
  · exact q.1 x2 a (by omega) y2 c e
theorem Bg_s {Q : Int → Int → Prop} {x ls y : Int} (h : ls ≤ y) : Bg Q x ls (y + 1) ↔ Bg Q x ls y ∧ Q x y := by
  refine ⟨fun q => ⟨fun y2 a b => q y2 a (by omega), q y h (by omega)⟩, fun q y2 a b => ?_⟩
  by_cases z : y2 = y
  · rw [z]; exact q.2
  · exact q.1 y2 a (by omega)
theorem Ag_all {Q : Int → Int → Prop} {lf x hf ls hs : Int} (e : x = hf + 1) : Ag Q lf x ls hs ↔ ∀ u v : Int, lf ≤ u → u ≤ hf → ls ≤ v → v ≤ hs → Q u v := ⟨fun h u v a b c d => h u a (by omega) v c d, fun h u a b v c d => h u v a (by omega) c d⟩
/-- a count that is 0 as long as all pairs do -/
theorem cn_y {n : Int} {P Q : Prop} (h : n = 0 ↔ P) (hq : Q) : n = 0 ↔ P ∧ Q := ⟨fun e => ⟨h.mp e, hq⟩, fun e => h.mpr e.1⟩
theorem cn_0 {n : Int} {P Q : Prop} (h : n = 0 ↔ P) (hq : Q) : n + 0 = 0 ↔ P ∧ Q := by rw [Int.add_zero]; exact cn_y h hq
theorem cn_n {n : Int} {P Q : Prop} (hn : 0 ≤ n) (hq : ¬ Q) : n + 1 = 0 ↔ P ∧ Q := ⟨fun e => by omega, fun e => absurd e.2 hq⟩
theorem nv_fp {R : RW} {q : Int} (hW : WfR q R) {b : Nat → Int} (hb : fpR R b) {p : Nat} (hp : (p : Int) < R 1) (h : nvR R p) : False := by
  obtain ⟨-, -, y3, y4, -⟩ := hW.2.2.2.2.2.2 p hp
  have w0 := hW.1
  have f1 := fp_in hb (R (29 + 5 * p + 2)).toNat (by omega)
  have f2 := fp_in hb (R (29 + 5 * p + 3)).toNat (by omega)
  exact (nv_iff hW hp).mp h _ _ f1.1 f1.2 f2.1 f2.2 (fp_ho hb hp)
section
variable {d M L D : Nat} {R : RW} {B : HP} {I : IM} {Post : Out → HP → Prop}
theorem t_lowI (t : TI M L D R B I) {x : Int} (hx : 0 ≤ x ∧ x < R 0) (hp : Post (.inl (some (.int (i3 (R (5 + 4 * x.toNat + 2)))))) (wI B I)) : Sp (d + 3) k_X8_lowOf [.ref 0, .int (i3 x)] (wI B I) Post := by
  obtain ⟨n, rfl⟩ : ∃ n : Nat, x = (n : Int) := ⟨x.toNat, by omega⟩
  exact t_low t hx.2 hp
theorem t_highI (t : TI M L D R B I) {x : Int} (hx : 0 ≤ x ∧ x < R 0) (hp : Post (.inl (some (.int (i3 (R (5 + 4 * x.toNat + 3)))))) (wI B I)) : Sp (d + 3) k_X8_highOf [.ref 0, .int (i3 x)] (wI B I) Post := by
  obtain ⟨n, rfl⟩ : ∃ n : Nat, x = (n : Int) := ⟨x.toNat, by omega⟩
  exact t_high t hx.2 hp
theorem t_peaceI (t : TI M L D R B I) {x : Int} (hx : 0 ≤ x ∧ x < R 0) {b : Nat → Int} (hb : fpR R b) (hp : ∀ J : IM, TI M L D R B J → Post (.inl (some (.int (i3 (b x.toNat))))) (wI B J)) : Sp (d + 17) k_X8_peaceHeight [.ref 0, .int (i3 x)] (wI B I) Post := by
  obtain ⟨n, rfl⟩ : ∃ n : Nat, x = (n : Int) := ⟨x.toNat, by omega⟩
  exact t_peace t hx.2 hb hp
end
set_option maxRecDepth 100000 in
theorem lw_C1 {d : Nat} {Post : Out → HP → Prop} {G : Nat → LV → List Value → HP → Prop} (hG : Cl (Sp (d + 19)) md_L_law Post G) {M L : Nat} {R : RW} {B : HP} {I : IM} (t : TI M L 4 R B I) (hM : M + 60 ≤ 5000) {tn : Nat} {f5 f6 f7 z9 : Int} {q : Nat} (hq : (q : Int) < R 1) {l11 l12 l13 l14 l15 l16 l17 : Option Value}  (hend : G 573 [some (.ref (BIG + 20)), some (.ref 0), some (.int (i3 (tn : Int))), some (.int (i3 (R 0))), some (.int (i3 (R 1))), some (.int (i3 f5)), some (.int (i3 f6)), some (.int (i3 f7)), some (.int (i3 0)), some (.int (i3 z9)), some (.int (i3 ((q : Int)))), some (.int (i3 (R (29 + 5 * q)))), some (.int (i3 (R (29 + 5 * q + 2)))), some (.int (i3 (R (29 + 5 * q + 3)))), some (.int (i3 (0))), some (.int (i3 (0))), some (.int (i3 (R (5 + 4 * (R (29 + 5 * q + 2)).toNat + 2)))), l17] [] (wI B I)) : G 535 [some (.ref (BIG + 20)), some (.ref 0), some (.int (i3 (tn : Int))), some (.int (i3 (R 0))), some (.int (i3 (R 1))), some (.int (i3 f5)), some (.int (i3 f6)), some (.int (i3 f7)), some (.int (i3 0)), some (.int (i3 z9)), some (.int (i3 ((q : Int)))), l11, l12, l13, l14, l15, l16, l17] [] (wI B I) := by
  have b0 := t.b0
  have b1 := t.b1
  have dd := t.dd
  have hX9 := t.lx.1
  have nn := t.nn
  obtain ⟨k1, k2, k3, k4⟩ := t.con hq
  have hi9 := t.id hq
  have d1 := t.door (k := (R (29 + 5 * q + 2)).toNat) (by omega)
  have d2 := t.door (k := (R (29 + 5 * q + 3)).toNat) (by omega)
  refine q_aload_n hG rfl rfl ?_
  refine q_iload hG rfl rfl ?_
  refine q_callV6 hG rfl rfl rfl hX9 (t_conAt t hq ?_)
  refine q_istore hG rfl rfl ?_
  refine q_aload_n hG rfl rfl ?_
  refine q_iload hG rfl rfl ?_
  refine q_callV6 hG rfl rfl rfl hX9 (t_first t hq ?_)
  refine q_istore hG rfl rfl ?_
  refine q_aload_n hG rfl rfl ?_
  refine q_iload hG rfl rfl ?_
  refine q_callV6 hG rfl rfl rfl hX9 (t_second t hq ?_)
  refine q_istore hG rfl rfl ?_
  refine q_iconst (v := 0) hG rfl rfl ?_
  refine q_istore hG rfl rfl ?_
  refine q_iconst (v := 0) hG rfl rfl ?_
  refine q_istore hG rfl rfl ?_
  refine q_aload_n hG rfl rfl ?_
  refine q_iload hG rfl rfl ?_
  refine q_callV6 hG rfl rfl rfl hX9 (t_lowI t k2 ?_)
  refine q_istore hG rfl rfl ?_
  exact hend
set_option maxRecDepth 100000 in
theorem lw_C2 {d : Nat} {Post : Out → HP → Prop} {G : Nat → LV → List Value → HP → Prop} (hG : Cl (Sp (d + 19)) md_L_law Post G) {M L : Nat} {R : RW} {B : HP} {I : IM} (t : TI M L 4 R B I) (hM : M + 60 ≤ 5000) {tn : Nat} {f5 f6 f7 z9 : Int} {q : Nat} (hq : (q : Int) < R 1) {l17 : Option Value}  (hend : ∀ (gd bd : Int) (m16 m17 : Option Value), (0 ≤ gd ∧ gd ≤ 2000) → (0 ≤ bd ∧ bd ≤ 2000) → (gd = 0 ↔ nvR R q) → (bd = 0 ↔ alR R q) → G 661 [some (.ref (BIG + 20)), some (.ref 0), some (.int (i3 (tn : Int))), some (.int (i3 (R 0))), some (.int (i3 (R 1))), some (.int (i3 f5)), some (.int (i3 f6)), some (.int (i3 f7)), some (.int (i3 0)), some (.int (i3 z9)), some (.int (i3 ((q : Int)))), some (.int (i3 (R (29 + 5 * q)))), some (.int (i3 (R (29 + 5 * q + 2)))), some (.int (i3 (R (29 + 5 * q + 3)))), some (.int (i3 (gd))), some (.int (i3 (bd))), m16, m17] [] (wI B I)) : G 573 [some (.ref (BIG + 20)), some (.ref 0), some (.int (i3 (tn : Int))), some (.int (i3 (R 0))), some (.int (i3 (R 1))), some (.int (i3 f5)), some (.int (i3 f6)), some (.int (i3 f7)), some (.int (i3 0)), some (.int (i3 z9)), some (.int (i3 ((q : Int)))), some (.int (i3 (R (29 + 5 * q)))), some (.int (i3 (R (29 + 5 * q + 2)))), some (.int (i3 (R (29 + 5 * q + 3)))), some (.int (i3 (0))), some (.int (i3 (0))), some (.int (i3 (R (5 + 4 * (R (29 + 5 * q + 2)).toNat + 2)))), l17] [] (wI B I) := by
  have b0 := t.b0
  have b1 := t.b1
  have dd := t.dd
  have hX9 := t.lx.1
  have nn := t.nn
  obtain ⟨k1, k2, k3, k4⟩ := t.con hq
  have hi9 := t.id hq
  have d1 := t.door (k := (R (29 + 5 * q + 2)).toNat) (by omega)
  have d2 := t.door (k := (R (29 + 5 * q + 3)).toNat) (by omega)
  have lq : ∀ (mz : Nat) (x : Int) (y : Int) (gd : Int) (bd : Int), ((R (5 + 4 * (R (29 + 5 * q + 2)).toNat + 3) - x) * 50 + (R (5 + 4 * (R (29 + 5 * q + 3)).toNat + 3) + 1 - y)).toNat = mz → (R (5 + 4 * (R (29 + 5 * q + 2)).toNat + 2) ≤ x ∧ x ≤ R (5 + 4 * (R (29 + 5 * q + 2)).toNat + 3)) → (R (5 + 4 * (R (29 + 5 * q + 3)).toNat + 2) ≤ y ∧ y ≤ R (5 + 4 * (R (29 + 5 * q + 3)).toNat + 3) + 1) → (0 ≤ gd ∧ gd ≤ 41 * (x - R (5 + 4 * (R (29 + 5 * q + 2)).toNat + 2)) + (y - R (5 + 4 * (R (29 + 5 * q + 3)).toNat + 2))) → (0 ≤ bd ∧ bd ≤ 41 * (x - R (5 + 4 * (R (29 + 5 * q + 2)).toNat + 2)) + (y - R (5 + 4 * (R (29 + 5 * q + 3)).toNat + 2))) → (gd = 0 ↔ Ag (fun u v => ¬ hoP (R (29 + 5 * q + 1)) u v (R (29 + 5 * q + 4))) (R (5 + 4 * (R (29 + 5 * q + 2)).toNat + 2)) x (R (5 + 4 * (R (29 + 5 * q + 3)).toNat + 2)) (R (5 + 4 * (R (29 + 5 * q + 3)).toNat + 3)) ∧ Bg (fun u v => ¬ hoP (R (29 + 5 * q + 1)) u v (R (29 + 5 * q + 4))) x (R (5 + 4 * (R (29 + 5 * q + 3)).toNat + 2)) y) → (bd = 0 ↔ Ag (fun u v => hoP (R (29 + 5 * q + 1)) u v (R (29 + 5 * q + 4))) (R (5 + 4 * (R (29 + 5 * q + 2)).toNat + 2)) x (R (5 + 4 * (R (29 + 5 * q + 3)).toNat + 2)) (R (5 + 4 * (R (29 + 5 * q + 3)).toNat + 3)) ∧ Bg (fun u v => hoP (R (29 + 5 * q + 1)) u v (R (29 + 5 * q + 4))) x (R (5 + 4 * (R (29 + 5 * q + 3)).toNat + 2)) y) → G 592 [some (.ref (BIG + 20)), some (.ref 0), some (.int (i3 (tn : Int))), some (.int (i3 (R 0))), some (.int (i3 (R 1))), some (.int (i3 f5)), some (.int (i3 f6)), some (.int (i3 f7)), some (.int (i3 0)), some (.int (i3 z9)), some (.int (i3 ((q : Int)))), some (.int (i3 (R (29 + 5 * q)))), some (.int (i3 (R (29 + 5 * q + 2)))), some (.int (i3 (R (29 + 5 * q + 3)))), some (.int (i3 (gd))), some (.int (i3 (bd))), some (.int (i3 (x))), some (.int (i3 (y)))] [] (wI B I) := by
    intro mz
    induction mz using Nat.strongRecOn with
    | ind mz ih =>
      intro x y gd bd hme hx hy h1 h2 h3 h4
      refine q_iload hG rfl rfl ?_
      refine q_aload_n hG rfl rfl ?_
      refine q_iload hG rfl rfl ?_
      refine q_callV6 hG rfl rfl rfl hX9 (t_highI t k3 ?_)
      refine q_icmp_gt hG rfl ⟨by omega, by omega⟩ ⟨by omega, by omega⟩ (fun hc600 => ?_) (fun hc600 => ?_)
      · refine q_iinc (c := 1) hG rfl rfl rfl rfl ?_
        refine q_goto hG rfl ?_
        refine q_iload hG rfl rfl ?_
        refine q_aload_n hG rfl rfl ?_
        refine q_iload hG rfl rfl ?_
        refine q_callV6 hG rfl rfl rfl hX9 (t_highI t k2 ?_)
        refine q_icmp_gt hG rfl ⟨by omega, by omega⟩ ⟨by omega, by omega⟩ (fun hc581 => ?_) (fun hc581 => ?_)
        · refine hend gd bd _ _ (by omega) (by omega) ?_ ?_
          · rw [nv_iff t.wf hq, ← Ag_all (x := x + 1) (by omega), Ag_s (y := y) (by omega) (by omega) (by omega)]; exact h3
          · rw [al_iff t.wf hq, ← Ag_all (x := x + 1) (by omega), Ag_s (y := y) (by omega) (by omega) (by omega)]; exact h4
        · refine q_aload_n hG rfl rfl ?_
          refine q_iload hG rfl rfl ?_
          refine q_callV6 hG rfl rfl rfl hX9 (t_lowI t k3 ?_)
          refine q_istore hG rfl rfl ?_
          refine ih _ (by omega) (x + 1) _ _ _ rfl (by omega) (by omega) (by omega) (by omega) ?_ ?_
          · rw [Ag_s (y := y) (by omega) (by omega) (by omega)]; exact cn_y h3 (Bg_0 _ _ _)
          · rw [Ag_s (y := y) (by omega) (by omega) (by omega)]; exact cn_y h4 (Bg_0 _ _ _)
      · refine q_iload hG rfl rfl ?_
        refine q_aload_n hG rfl rfl ?_
        refine q_iload hG rfl rfl ?_
        refine q_iload hG rfl rfl ?_
        refine q_iload hG rfl rfl ?_
        refine q_callS0 hG rfl rfl rfl (s_L_holds t hq ⟨by omega, by omega⟩ ⟨by omega, by omega⟩ (fun ho => ?_) (fun ho => ?_))
        · refine q_if_eq hG rfl ⟨by omega, by omega⟩ (fun q => absurd q (by decide)) (fun _ => ?_)
          refine q_iconst (v := 1) hG rfl rfl ?_
          refine q_goto hG rfl ?_
          refine q_iadd hG rfl ?_
          refine q_istore hG rfl rfl ?_
          refine q_iload hG rfl rfl ?_
          refine q_aload_n hG rfl rfl ?_
          refine q_iload hG rfl rfl ?_
          refine q_iload hG rfl rfl ?_
          refine q_iload hG rfl rfl ?_
          refine q_callS0 hG rfl rfl rfl (s_L_holds t hq ⟨by omega, by omega⟩ ⟨by omega, by omega⟩ (fun ho2 => ?_) (fun ho2 => ?_))
          · refine q_if_eq hG rfl ⟨by omega, by omega⟩ (fun q => absurd q (by decide)) (fun _ => ?_)
            refine q_iconst (v := 0) hG rfl rfl ?_
            refine q_goto hG rfl ?_
            refine q_iadd hG rfl ?_
            refine q_istore hG rfl rfl ?_
            refine q_iinc (c := 1) hG rfl rfl rfl rfl ?_
            refine q_goto hG rfl ?_
            refine ih _ (by omega) x (y + 1) _ _ rfl hx (by omega) (by omega) (by omega) ?_ ?_
            · rw [Bg_s (by omega), ← and_assoc]; exact cn_n h1.1 (fun z => z ho)
            · rw [Bg_s (by omega), ← and_assoc]; exact cn_0 h4 ho
          · refine q_if_eq hG rfl ⟨by omega, by omega⟩ (fun _ => ?_) (fun q => absurd (by decide) q)
            refine q_iconst (v := 1) hG rfl rfl ?_
            refine q_iadd hG rfl ?_
            refine q_istore hG rfl rfl ?_
            refine q_iinc (c := 1) hG rfl rfl rfl rfl ?_
            refine q_goto hG rfl ?_
            exact absurd ho ho2
        · refine q_if_eq hG rfl ⟨by omega, by omega⟩ (fun _ => ?_) (fun q => absurd (by decide) q)
          refine q_iconst (v := 0) hG rfl rfl ?_
          refine q_iadd hG rfl ?_
          refine q_istore hG rfl rfl ?_
          refine q_iload hG rfl rfl ?_
          refine q_aload_n hG rfl rfl ?_
          refine q_iload hG rfl rfl ?_
          refine q_iload hG rfl rfl ?_
          refine q_iload hG rfl rfl ?_
          refine q_callS0 hG rfl rfl rfl (s_L_holds t hq ⟨by omega, by omega⟩ ⟨by omega, by omega⟩ (fun ho2 => ?_) (fun ho2 => ?_))
          · refine q_if_eq hG rfl ⟨by omega, by omega⟩ (fun q => absurd q (by decide)) (fun _ => ?_)
            refine q_iconst (v := 0) hG rfl rfl ?_
            refine q_goto hG rfl ?_
            refine q_iadd hG rfl ?_
            refine q_istore hG rfl rfl ?_
            refine q_iinc (c := 1) hG rfl rfl rfl rfl ?_
            refine q_goto hG rfl ?_
            exact absurd ho2 ho
          · refine q_if_eq hG rfl ⟨by omega, by omega⟩ (fun _ => ?_) (fun q => absurd (by decide) q)
            refine q_iconst (v := 1) hG rfl rfl ?_
            refine q_iadd hG rfl ?_
            refine q_istore hG rfl rfl ?_
            refine q_iinc (c := 1) hG rfl rfl rfl rfl ?_
            refine q_goto hG rfl ?_
            refine ih _ (by omega) x (y + 1) _ _ rfl hx (by omega) (by omega) (by omega) ?_ ?_
            · rw [Bg_s (by omega), ← and_assoc]; exact cn_0 h3 ho
            · rw [Bg_s (by omega), ← and_assoc]; exact cn_n h2.1 ho
  refine q_iload hG rfl rfl ?_
  refine q_aload_n hG rfl rfl ?_
  refine q_iload hG rfl rfl ?_
  refine q_callV6 hG rfl rfl rfl hX9 (t_highI t k2 ?_)
  refine q_icmp_gt hG rfl ⟨by omega, by omega⟩ ⟨by omega, by omega⟩ (fun hc581 => ?_) (fun hc581 => ?_)
  · omega
  · refine q_aload_n hG rfl rfl ?_
    refine q_iload hG rfl rfl ?_
    refine q_callV6 hG rfl rfl rfl hX9 (t_lowI t k3 ?_)
    refine q_istore hG rfl rfl ?_
    refine lq _ _ _ 0 0 rfl (by omega) (by omega) (by omega) (by omega) ?_ ?_
    · exact ⟨fun _ => ⟨Ag_0 _ _ _ _, Bg_0 _ _ _⟩, fun _ => rfl⟩
    · exact ⟨fun _ => ⟨Ag_0 _ _ _ _, Bg_0 _ _ _⟩, fun _ => rfl⟩
set_option maxRecDepth 100000 in
theorem lw_C3 {d : Nat} {Post : Out → HP → Prop} {G : Nat → LV → List Value → HP → Prop} (hG : Cl (Sp (d + 19)) md_L_law Post G) {M L : Nat} {R : RW} {B : HP} {I : IM} (t : TI M L 4 R B I) (hM : M + 60 ≤ 5000) {tn : Nat} {f5 f6 f7 z9 : Int} {q : Nat} (hq : (q : Int) < R 1) {l16 l17 : Option Value} {gd bd : Int} (hgd : 0 ≤ gd ∧ gd ≤ 2000) (hbd : 0 ≤ bd ∧ bd ≤ 2000) (h3 : gd = 0 ↔ nvR R q) (h4 : bd = 0 ↔ alR R q) {b : Nat → Int} (hb : PH R z9 b)  (hend : ∀ J : IM, TI M L 4 R B J → G 737 [some (.ref (BIG + 20)), some (.ref 0), some (.int (i3 (tn : Int))), some (.int (i3 (R 0))), some (.int (i3 (R 1))), some (.int (i3 f5)), some (.int (i3 f6)), some (.int (i3 f7)), some (.int (i3 0)), some (.int (i3 z9)), some (.int (i3 ((q : Int)))), some (.int (i3 (R (29 + 5 * q)))), some (.int (i3 (R (29 + 5 * q + 2)))), some (.int (i3 (R (29 + 5 * q + 3)))), some (.int (i3 (gd))), some (.int (i3 (bd))), l16, l17] [] (wI B J)) : G 661 [some (.ref (BIG + 20)), some (.ref 0), some (.int (i3 (tn : Int))), some (.int (i3 (R 0))), some (.int (i3 (R 1))), some (.int (i3 f5)), some (.int (i3 f6)), some (.int (i3 f7)), some (.int (i3 0)), some (.int (i3 z9)), some (.int (i3 ((q : Int)))), some (.int (i3 (R (29 + 5 * q)))), some (.int (i3 (R (29 + 5 * q + 2)))), some (.int (i3 (R (29 + 5 * q + 3)))), some (.int (i3 (gd))), some (.int (i3 (bd))), l16, l17] [] (wI B I) := by
  have b0 := t.b0
  have b1 := t.b1
  have dd := t.dd
  have hX9 := t.lx.1
  have nn := t.nn
  obtain ⟨k1, k2, k3, k4⟩ := t.con hq
  have hi9 := t.id hq
  have d1 := t.door (k := (R (29 + 5 * q + 2)).toNat) (by omega)
  have d2 := t.door (k := (R (29 + 5 * q + 3)).toNat) (by omega)
  have hz := hb.z
  refine q_aload_n hG rfl rfl ?_
  refine q_iload hG rfl rfl ?_
  refine q_callV6 hG rfl rfl rfl hX9 (t_safe t hq (fun e => ?_) (fun e => ?_))
  · refine q_iload hG rfl rfl ?_
    refine q_if_ne hG rfl ⟨by omega, by omega⟩ (fun hc669 => ?_) (fun hc669 => ?_)
    · refine q_iconst (v := 0) hG rfl rfl ?_
      refine q_icmp_ne hG rfl ⟨by omega, by omega⟩ ⟨by omega, by omega⟩ (fun _ => ?_) (fun q => absurd (by decide) q)
      refine q_iconst (v := 0) hG rfl rfl ?_
      refine q_iret5 hG rfl rfl (by decide) ?_
      first
      | omega
      | exact absurd (h4.mpr e) (by omega)
      | exact absurd (h4.mp (by omega)) e
      | exact absurd (h3.mpr e2) (by omega)
      | exact absurd (h3.mp (by omega)) e2
      | exact (nv_fp t.wf (hb.fp (by omega)) hq (h3.mp (by omega))).elim
    · refine q_iconst (v := 1) hG rfl rfl ?_
      refine q_goto hG rfl ?_
      refine q_icmp_ne hG rfl ⟨by omega, by omega⟩ ⟨by omega, by omega⟩ (fun q => absurd q (by decide)) (fun _ => ?_)
      refine q_aload_n hG rfl rfl ?_
      refine q_iload hG rfl rfl ?_
      refine q_callV6 hG rfl rfl rfl hX9 (t_broken t hq (fun e2 => ?_) (fun e2 => ?_))
      · refine q_iload hG rfl rfl ?_
        refine q_if_ne hG rfl ⟨by omega, by omega⟩ (fun hc688 => ?_) (fun hc688 => ?_)
        · refine q_iconst (v := 0) hG rfl rfl ?_
          refine q_icmp_ne hG rfl ⟨by omega, by omega⟩ ⟨by omega, by omega⟩ (fun _ => ?_) (fun q => absurd (by decide) q)
          refine q_iconst (v := 0) hG rfl rfl ?_
          refine q_iret5 hG rfl rfl (by decide) ?_
          first
          | omega
          | exact absurd (h4.mpr e) (by omega)
          | exact absurd (h4.mp (by omega)) e
          | exact absurd (h3.mpr e2) (by omega)
          | exact absurd (h3.mp (by omega)) e2
          | exact (nv_fp t.wf (hb.fp (by omega)) hq (h3.mp (by omega))).elim
        · refine q_iconst (v := 1) hG rfl rfl ?_
          refine q_goto hG rfl ?_
          refine q_icmp_ne hG rfl ⟨by omega, by omega⟩ ⟨by omega, by omega⟩ (fun q => absurd q (by decide)) (fun _ => ?_)
          refine q_iload hG rfl rfl ?_
          refine q_if_ne hG rfl ⟨by omega, by omega⟩ (fun hc701 => ?_) (fun hc701 => ?_)
          · refine q_iload hG rfl rfl ?_
            refine q_if_eq hG rfl ⟨by omega, by omega⟩ (fun hc711 => ?_) (fun hc711 => ?_)
            · first
              | exact hend J2 t3
              | exact hend I t
            · have hfp := hb.fp hc711
              have f1 := fp_in hfp (R (29 + 5 * q + 2)).toNat (by omega)
              have f2 := fp_in hfp (R (29 + 5 * q + 3)).toNat (by omega)
              refine q_aload_n hG rfl rfl ?_
              refine q_iload hG rfl rfl ?_
              refine q_aload_n hG rfl rfl ?_
              refine q_iload hG rfl rfl ?_
              refine q_callV6 hG rfl rfl rfl hX9 (t_peaceI t k2 hfp (fun J t2 => ?_))
              refine q_aload_n hG rfl rfl ?_
              refine q_iload hG rfl rfl ?_
              refine q_callV6 hG rfl rfl rfl hX9 (t_peaceI t2 k3 hfp (fun J2 t3 => ?_))
              refine q_callS0 hG rfl rfl rfl (s_L_holds t3 hq ⟨by omega, by omega⟩ ⟨by omega, by omega⟩ (fun ho => ?_) (fun ho => absurd (fp_ho hfp hq) ho))
              refine q_if_ne hG rfl ⟨by omega, by omega⟩ (fun _ => ?_) (fun q => absurd (by decide) q)
              first
              | exact hend J2 t3
              | exact hend I t
          · refine q_iload hG rfl rfl ?_
            refine q_if_ne hG rfl ⟨by omega, by omega⟩ (fun hc706 => ?_) (fun hc706 => ?_)
            · refine q_iconst (v := 0) hG rfl rfl ?_
              refine q_iret5 hG rfl rfl (by decide) ?_
              first
              | omega
              | exact absurd (h4.mpr e) (by omega)
              | exact absurd (h4.mp (by omega)) e
              | exact absurd (h3.mpr e2) (by omega)
              | exact absurd (h3.mp (by omega)) e2
              | exact (nv_fp t.wf (hb.fp (by omega)) hq (h3.mp (by omega))).elim
            · refine q_iload hG rfl rfl ?_
              refine q_if_eq hG rfl ⟨by omega, by omega⟩ (fun hc711 => ?_) (fun hc711 => ?_)
              · first
                | exact hend J2 t3
                | exact hend I t
              · have hfp := hb.fp hc711
                have f1 := fp_in hfp (R (29 + 5 * q + 2)).toNat (by omega)
                have f2 := fp_in hfp (R (29 + 5 * q + 3)).toNat (by omega)
                refine q_aload_n hG rfl rfl ?_
                refine q_iload hG rfl rfl ?_
                refine q_aload_n hG rfl rfl ?_
                refine q_iload hG rfl rfl ?_
                refine q_callV6 hG rfl rfl rfl hX9 (t_peaceI t k2 hfp (fun J t2 => ?_))
                refine q_aload_n hG rfl rfl ?_
                refine q_iload hG rfl rfl ?_
                refine q_callV6 hG rfl rfl rfl hX9 (t_peaceI t2 k3 hfp (fun J2 t3 => ?_))
                refine q_callS0 hG rfl rfl rfl (s_L_holds t3 hq ⟨by omega, by omega⟩ ⟨by omega, by omega⟩ (fun ho => ?_) (fun ho => absurd (fp_ho hfp hq) ho))
                refine q_if_ne hG rfl ⟨by omega, by omega⟩ (fun _ => ?_) (fun q => absurd (by decide) q)
                first
                | exact hend J2 t3
                | exact hend I t
      · refine q_iload hG rfl rfl ?_
        refine q_if_ne hG rfl ⟨by omega, by omega⟩ (fun hc688 => ?_) (fun hc688 => ?_)
        · refine q_iconst (v := 0) hG rfl rfl ?_
          refine q_icmp_ne hG rfl ⟨by omega, by omega⟩ ⟨by omega, by omega⟩ (fun q => absurd q (by decide)) (fun _ => ?_)
          refine q_iload hG rfl rfl ?_
          refine q_if_ne hG rfl ⟨by omega, by omega⟩ (fun hc701 => ?_) (fun hc701 => ?_)
          · refine q_iload hG rfl rfl ?_
            refine q_if_eq hG rfl ⟨by omega, by omega⟩ (fun hc711 => ?_) (fun hc711 => ?_)
            · first
              | exact hend J2 t3
              | exact hend I t
            · have hfp := hb.fp hc711
              have f1 := fp_in hfp (R (29 + 5 * q + 2)).toNat (by omega)
              have f2 := fp_in hfp (R (29 + 5 * q + 3)).toNat (by omega)
              refine q_aload_n hG rfl rfl ?_
              refine q_iload hG rfl rfl ?_
              refine q_aload_n hG rfl rfl ?_
              refine q_iload hG rfl rfl ?_
              refine q_callV6 hG rfl rfl rfl hX9 (t_peaceI t k2 hfp (fun J t2 => ?_))
              refine q_aload_n hG rfl rfl ?_
              refine q_iload hG rfl rfl ?_
              refine q_callV6 hG rfl rfl rfl hX9 (t_peaceI t2 k3 hfp (fun J2 t3 => ?_))
              refine q_callS0 hG rfl rfl rfl (s_L_holds t3 hq ⟨by omega, by omega⟩ ⟨by omega, by omega⟩ (fun ho => ?_) (fun ho => absurd (fp_ho hfp hq) ho))
              refine q_if_ne hG rfl ⟨by omega, by omega⟩ (fun _ => ?_) (fun q => absurd (by decide) q)
              first
              | exact hend J2 t3
              | exact hend I t
          · refine q_iload hG rfl rfl ?_
            refine q_if_ne hG rfl ⟨by omega, by omega⟩ (fun hc706 => ?_) (fun hc706 => ?_)
            · refine q_iconst (v := 0) hG rfl rfl ?_
              refine q_iret5 hG rfl rfl (by decide) ?_
              first
              | omega
              | exact absurd (h4.mpr e) (by omega)
              | exact absurd (h4.mp (by omega)) e
              | exact absurd (h3.mpr e2) (by omega)
              | exact absurd (h3.mp (by omega)) e2
              | exact (nv_fp t.wf (hb.fp (by omega)) hq (h3.mp (by omega))).elim
            · refine q_iload hG rfl rfl ?_
              refine q_if_eq hG rfl ⟨by omega, by omega⟩ (fun hc711 => ?_) (fun hc711 => ?_)
              · first
                | exact hend J2 t3
                | exact hend I t
              · have hfp := hb.fp hc711
                have f1 := fp_in hfp (R (29 + 5 * q + 2)).toNat (by omega)
                have f2 := fp_in hfp (R (29 + 5 * q + 3)).toNat (by omega)
                refine q_aload_n hG rfl rfl ?_
                refine q_iload hG rfl rfl ?_
                refine q_aload_n hG rfl rfl ?_
                refine q_iload hG rfl rfl ?_
                refine q_callV6 hG rfl rfl rfl hX9 (t_peaceI t k2 hfp (fun J t2 => ?_))
                refine q_aload_n hG rfl rfl ?_
                refine q_iload hG rfl rfl ?_
                refine q_callV6 hG rfl rfl rfl hX9 (t_peaceI t2 k3 hfp (fun J2 t3 => ?_))
                refine q_callS0 hG rfl rfl rfl (s_L_holds t3 hq ⟨by omega, by omega⟩ ⟨by omega, by omega⟩ (fun ho => ?_) (fun ho => absurd (fp_ho hfp hq) ho))
                refine q_if_ne hG rfl ⟨by omega, by omega⟩ (fun _ => ?_) (fun q => absurd (by decide) q)
                first
                | exact hend J2 t3
                | exact hend I t
        · refine q_iconst (v := 1) hG rfl rfl ?_
          refine q_goto hG rfl ?_
          refine q_icmp_ne hG rfl ⟨by omega, by omega⟩ ⟨by omega, by omega⟩ (fun _ => ?_) (fun q => absurd (by decide) q)
          refine q_iconst (v := 0) hG rfl rfl ?_
          refine q_iret5 hG rfl rfl (by decide) ?_
          first
          | omega
          | exact absurd (h4.mpr e) (by omega)
          | exact absurd (h4.mp (by omega)) e
          | exact absurd (h3.mpr e2) (by omega)
          | exact absurd (h3.mp (by omega)) e2
          | exact (nv_fp t.wf (hb.fp (by omega)) hq (h3.mp (by omega))).elim
  · refine q_iload hG rfl rfl ?_
    refine q_if_ne hG rfl ⟨by omega, by omega⟩ (fun hc669 => ?_) (fun hc669 => ?_)
    · refine q_iconst (v := 0) hG rfl rfl ?_
      refine q_icmp_ne hG rfl ⟨by omega, by omega⟩ ⟨by omega, by omega⟩ (fun q => absurd q (by decide)) (fun _ => ?_)
      refine q_aload_n hG rfl rfl ?_
      refine q_iload hG rfl rfl ?_
      refine q_callV6 hG rfl rfl rfl hX9 (t_broken t hq (fun e2 => ?_) (fun e2 => ?_))
      · refine q_iload hG rfl rfl ?_
        refine q_if_ne hG rfl ⟨by omega, by omega⟩ (fun hc688 => ?_) (fun hc688 => ?_)
        · refine q_iconst (v := 0) hG rfl rfl ?_
          refine q_icmp_ne hG rfl ⟨by omega, by omega⟩ ⟨by omega, by omega⟩ (fun _ => ?_) (fun q => absurd (by decide) q)
          refine q_iconst (v := 0) hG rfl rfl ?_
          refine q_iret5 hG rfl rfl (by decide) ?_
          first
          | omega
          | exact absurd (h4.mpr e) (by omega)
          | exact absurd (h4.mp (by omega)) e
          | exact absurd (h3.mpr e2) (by omega)
          | exact absurd (h3.mp (by omega)) e2
          | exact (nv_fp t.wf (hb.fp (by omega)) hq (h3.mp (by omega))).elim
        · refine q_iconst (v := 1) hG rfl rfl ?_
          refine q_goto hG rfl ?_
          refine q_icmp_ne hG rfl ⟨by omega, by omega⟩ ⟨by omega, by omega⟩ (fun q => absurd q (by decide)) (fun _ => ?_)
          refine q_iload hG rfl rfl ?_
          refine q_if_ne hG rfl ⟨by omega, by omega⟩ (fun hc701 => ?_) (fun hc701 => ?_)
          · refine q_iload hG rfl rfl ?_
            refine q_if_eq hG rfl ⟨by omega, by omega⟩ (fun hc711 => ?_) (fun hc711 => ?_)
            · first
              | exact hend J2 t3
              | exact hend I t
            · have hfp := hb.fp hc711
              have f1 := fp_in hfp (R (29 + 5 * q + 2)).toNat (by omega)
              have f2 := fp_in hfp (R (29 + 5 * q + 3)).toNat (by omega)
              refine q_aload_n hG rfl rfl ?_
              refine q_iload hG rfl rfl ?_
              refine q_aload_n hG rfl rfl ?_
              refine q_iload hG rfl rfl ?_
              refine q_callV6 hG rfl rfl rfl hX9 (t_peaceI t k2 hfp (fun J t2 => ?_))
              refine q_aload_n hG rfl rfl ?_
              refine q_iload hG rfl rfl ?_
              refine q_callV6 hG rfl rfl rfl hX9 (t_peaceI t2 k3 hfp (fun J2 t3 => ?_))
              refine q_callS0 hG rfl rfl rfl (s_L_holds t3 hq ⟨by omega, by omega⟩ ⟨by omega, by omega⟩ (fun ho => ?_) (fun ho => absurd (fp_ho hfp hq) ho))
              refine q_if_ne hG rfl ⟨by omega, by omega⟩ (fun _ => ?_) (fun q => absurd (by decide) q)
              first
              | exact hend J2 t3
              | exact hend I t
          · refine q_iload hG rfl rfl ?_
            refine q_if_ne hG rfl ⟨by omega, by omega⟩ (fun hc706 => ?_) (fun hc706 => ?_)
            · refine q_iconst (v := 0) hG rfl rfl ?_
              refine q_iret5 hG rfl rfl (by decide) ?_
              first
              | omega
              | exact absurd (h4.mpr e) (by omega)
              | exact absurd (h4.mp (by omega)) e
              | exact absurd (h3.mpr e2) (by omega)
              | exact absurd (h3.mp (by omega)) e2
              | exact (nv_fp t.wf (hb.fp (by omega)) hq (h3.mp (by omega))).elim
            · refine q_iload hG rfl rfl ?_
              refine q_if_eq hG rfl ⟨by omega, by omega⟩ (fun hc711 => ?_) (fun hc711 => ?_)
              · first
                | exact hend J2 t3
                | exact hend I t
              · have hfp := hb.fp hc711
                have f1 := fp_in hfp (R (29 + 5 * q + 2)).toNat (by omega)
                have f2 := fp_in hfp (R (29 + 5 * q + 3)).toNat (by omega)
                refine q_aload_n hG rfl rfl ?_
                refine q_iload hG rfl rfl ?_
                refine q_aload_n hG rfl rfl ?_
                refine q_iload hG rfl rfl ?_
                refine q_callV6 hG rfl rfl rfl hX9 (t_peaceI t k2 hfp (fun J t2 => ?_))
                refine q_aload_n hG rfl rfl ?_
                refine q_iload hG rfl rfl ?_
                refine q_callV6 hG rfl rfl rfl hX9 (t_peaceI t2 k3 hfp (fun J2 t3 => ?_))
                refine q_callS0 hG rfl rfl rfl (s_L_holds t3 hq ⟨by omega, by omega⟩ ⟨by omega, by omega⟩ (fun ho => ?_) (fun ho => absurd (fp_ho hfp hq) ho))
                refine q_if_ne hG rfl ⟨by omega, by omega⟩ (fun _ => ?_) (fun q => absurd (by decide) q)
                first
                | exact hend J2 t3
                | exact hend I t
      · refine q_iload hG rfl rfl ?_
        refine q_if_ne hG rfl ⟨by omega, by omega⟩ (fun hc688 => ?_) (fun hc688 => ?_)
        · refine q_iconst (v := 0) hG rfl rfl ?_
          refine q_icmp_ne hG rfl ⟨by omega, by omega⟩ ⟨by omega, by omega⟩ (fun q => absurd q (by decide)) (fun _ => ?_)
          refine q_iload hG rfl rfl ?_
          refine q_if_ne hG rfl ⟨by omega, by omega⟩ (fun hc701 => ?_) (fun hc701 => ?_)
          · refine q_iload hG rfl rfl ?_
            refine q_if_eq hG rfl ⟨by omega, by omega⟩ (fun hc711 => ?_) (fun hc711 => ?_)
            · first
              | exact hend J2 t3
              | exact hend I t
            · have hfp := hb.fp hc711
              have f1 := fp_in hfp (R (29 + 5 * q + 2)).toNat (by omega)
              have f2 := fp_in hfp (R (29 + 5 * q + 3)).toNat (by omega)
              refine q_aload_n hG rfl rfl ?_
              refine q_iload hG rfl rfl ?_
              refine q_aload_n hG rfl rfl ?_
              refine q_iload hG rfl rfl ?_
              refine q_callV6 hG rfl rfl rfl hX9 (t_peaceI t k2 hfp (fun J t2 => ?_))
              refine q_aload_n hG rfl rfl ?_
              refine q_iload hG rfl rfl ?_
              refine q_callV6 hG rfl rfl rfl hX9 (t_peaceI t2 k3 hfp (fun J2 t3 => ?_))
              refine q_callS0 hG rfl rfl rfl (s_L_holds t3 hq ⟨by omega, by omega⟩ ⟨by omega, by omega⟩ (fun ho => ?_) (fun ho => absurd (fp_ho hfp hq) ho))
              refine q_if_ne hG rfl ⟨by omega, by omega⟩ (fun _ => ?_) (fun q => absurd (by decide) q)
              first
              | exact hend J2 t3
              | exact hend I t
          · refine q_iload hG rfl rfl ?_
            refine q_if_ne hG rfl ⟨by omega, by omega⟩ (fun hc706 => ?_) (fun hc706 => ?_)
            · refine q_iconst (v := 0) hG rfl rfl ?_
              refine q_iret5 hG rfl rfl (by decide) ?_
              first
              | omega
              | exact absurd (h4.mpr e) (by omega)
              | exact absurd (h4.mp (by omega)) e
              | exact absurd (h3.mpr e2) (by omega)
              | exact absurd (h3.mp (by omega)) e2
              | exact (nv_fp t.wf (hb.fp (by omega)) hq (h3.mp (by omega))).elim
            · refine q_iload hG rfl rfl ?_
              refine q_if_eq hG rfl ⟨by omega, by omega⟩ (fun hc711 => ?_) (fun hc711 => ?_)
              · first
                | exact hend J2 t3
                | exact hend I t
              · have hfp := hb.fp hc711
                have f1 := fp_in hfp (R (29 + 5 * q + 2)).toNat (by omega)
                have f2 := fp_in hfp (R (29 + 5 * q + 3)).toNat (by omega)
                refine q_aload_n hG rfl rfl ?_
                refine q_iload hG rfl rfl ?_
                refine q_aload_n hG rfl rfl ?_
                refine q_iload hG rfl rfl ?_
                refine q_callV6 hG rfl rfl rfl hX9 (t_peaceI t k2 hfp (fun J t2 => ?_))
                refine q_aload_n hG rfl rfl ?_
                refine q_iload hG rfl rfl ?_
                refine q_callV6 hG rfl rfl rfl hX9 (t_peaceI t2 k3 hfp (fun J2 t3 => ?_))
                refine q_callS0 hG rfl rfl rfl (s_L_holds t3 hq ⟨by omega, by omega⟩ ⟨by omega, by omega⟩ (fun ho => ?_) (fun ho => absurd (fp_ho hfp hq) ho))
                refine q_if_ne hG rfl ⟨by omega, by omega⟩ (fun _ => ?_) (fun q => absurd (by decide) q)
                first
                | exact hend J2 t3
                | exact hend I t
        · refine q_iconst (v := 1) hG rfl rfl ?_
          refine q_goto hG rfl ?_
          refine q_icmp_ne hG rfl ⟨by omega, by omega⟩ ⟨by omega, by omega⟩ (fun _ => ?_) (fun q => absurd (by decide) q)
          refine q_iconst (v := 0) hG rfl rfl ?_
          refine q_iret5 hG rfl rfl (by decide) ?_
          first
          | omega
          | exact absurd (h4.mpr e) (by omega)
          | exact absurd (h4.mp (by omega)) e
          | exact absurd (h3.mpr e2) (by omega)
          | exact absurd (h3.mp (by omega)) e2
          | exact (nv_fp t.wf (hb.fp (by omega)) hq (h3.mp (by omega))).elim
    · refine q_iconst (v := 1) hG rfl rfl ?_
      refine q_goto hG rfl ?_
      refine q_icmp_ne hG rfl ⟨by omega, by omega⟩ ⟨by omega, by omega⟩ (fun _ => ?_) (fun q => absurd (by decide) q)
      refine q_iconst (v := 0) hG rfl rfl ?_
      refine q_iret5 hG rfl rfl (by decide) ?_
      first
      | omega
      | exact absurd (h4.mpr e) (by omega)
      | exact absurd (h4.mp (by omega)) e
      | exact absurd (h3.mpr e2) (by omega)
      | exact absurd (h3.mp (by omega)) e2
      | exact (nv_fp t.wf (hb.fp (by omega)) hq (h3.mp (by omega))).elim
