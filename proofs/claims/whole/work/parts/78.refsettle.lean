/-! the reference's settling, frames -/
def rf2 (I J : IM) (m : Nat) : Prop := (∀ a, a ≠ m → a ≠ m + 1 → J a = I a) ∧ (∀ k, k ≠ 10 → k ≠ 11 → J m k = I m k) ∧ ∀ j, (j < 5 ∨ 29 ≤ j ∨ (j - 5) % 4 < 2) → J (m + 1) j = I (m + 1) j
theorem rfr.two {I J : IM} {m : Nat} (h : rfr I J m) : rf2 I J m := ⟨h.1, fun k a _ => h.2.1 k a, h.2.2⟩
theorem rf2.refl (I : IM) (m : Nat) : rf2 I I m := (rfr.refl I m).two
theorem rf2.trans {I J K : IM} {m : Nat} (h : rf2 I J m) (h2 : rf2 J K m) : rf2 I K m := ⟨fun a p q => (h2.1 a p q).trans (h.1 a p q), fun k p q => (h2.2.1 k p q).trans (h.2.1 k p q), fun j p => (h2.2.2 j p).trans (h.2.2 j p)⟩
theorem rf2.st11 (I : IM) (m : Nat) (v : Int) : rf2 I (st I m 11 v) m := ⟨fun a p _ => st_row _ _ p, fun k _ q => st_ne _ _ (by omega), fun j _ => by rw [st_row _ _ (by omega)]⟩
theorem rf2.c {I J : IM} {m : Nat} (h : rf2 I J m) (k w : Nat) : cR J m k w = cR I m k w := h.2.2 _ (by omega)
theorem rf2.f {I J : IM} {m : Nat} (h : rf2 I J m) (k w : Nat) (hw : w < 2) : dR J m k w = dR I m k w := h.2.2 _ (by omega)
theorem rf2.cn {I J : IM} {m : Nat} (h : rf2 I J m) : rnI J m = rnI I m := by
  funext p
  unfold rnI
  rw [h.c, h.c, h.c, h.c]
theorem rf2.n {I J : IM} {m : Nat} (h : rf2 I J m) (k : Nat) (hk : k < 5) : J (m + 1) k = I (m + 1) k := h.2.2 k (by omega)
theorem rf2.wf {I J : IM} {m : Nat} (h : rf2 I J m) (hr : rWF I m) : rWF J m := by
  unfold rWF
  rw [h.n 1 (by omega)]
  refine ⟨hr.1, fun p hp => ?_⟩
  rw [h.c, h.c, h.c, h.c, h.c]
  exact hr.2 p hp
theorem rfS_11 (I : IM) (m : Nat) (v : Int) : rfS (st I m 11 v) m = rfS I m := by
  unfold rfS dR
  rw [st_row _ _ (show m + 1 ≠ m by omega), st_ne _ _ (by omega)]

theorem s_R_settles {d : Nat} {B : HP} {I : IM} {Post : Out → HP → Prop} {m : Nat} (hm : oM B m) {wo wa : Int} (hwa : (wo = 1 ∧ wa = 0) ∨ (wo = 0 ∧ wa = 1)) (hcf : rWF I m) (hS : okB (rfS I m)) (hch : 0 ≤ I m 10 ∧ I m 10 ≤ 1000) (p1 : ∀ J : IM, (stM (rnI I m) wa (I (m + 1) 1).toNat 1000 (rfS I m) 0).1 = none → rfS J m = (stM (rnI I m) wa (I (m + 1) 1).toNat 1000 (rfS I m) 0).2.1 → rf2 I J m → Post (.inl (some (.int (i3 ((stM (rnI I m) wa (I (m + 1) 1).toNat 1000 (rfS I m) 0).2.2))))) (wI B J)) (p0 : ∀ (J : IM) (p : Nat), (stM (rnI I m) wa (I (m + 1) 1).toNat 1000 (rfS I m) 0).1 = some p → p < (I (m + 1) 1).toNat → J m 11 = (p : Int) → rf2 I J m → Post (.inl (some (.int (i3 (-1))))) (wI B J)) : Sp (d + 7) k_X9_settles [.ref m, .int (i3 (wo))] (wI B I) Post := by
  refine Sp_intro md_X9_settles rfl rfl (fun G hG => ?_)
  have hm0 := hm
  obtain ⟨n1, n2, n3, n4, n5, n6, n7, n8, n9, n10, n11⟩ := hm
  have w0 := okB_w hS
  have hN0 := hcf.1
  have lp : ∀ (mz : Nat) (i : Nat) (J : IM) (was : Int) (cf : Int), 1000 - i = mz → rf2 I J m → J m 11 = cf → ((cf = -1 ∧ was ≠ (rfS J m).2.2 ∧ stM (rnI I m) wa (I (m + 1) 1).toNat (1000 - i) (rfS J m) (i : Int) = stM (rnI I m) wa (I (m + 1) 1).toNat 1000 (rfS I m) 0 ∧ okB (rfS J m) ∧ (i : Int) + wsm (rfS J m) ≤ wsm (rfS I m) ∧ nrw (rfS I m) (rfS J m)) ∨ (cf = -1 ∧ was = (rfS J m).2.2 ∧ stM (rnI I m) wa (I (m + 1) 1).toNat 1000 (rfS I m) 0 = (none, rfS J m, (i : Int))) ∨ (∃ p : Nat, cf = (p : Int) ∧ (stM (rnI I m) wa (I (m + 1) 1).toNat 1000 (rfS I m) 0).1 = some p ∧ p < (I (m + 1) 1).toNat)) → (cf = -1 → (-1 ≤ was ∧ was ≤ 2000 ∧ 0 ≤ J m 10 ∧ J m 10 ≤ 2000)) → G 9 [some (.ref m), some (.int (i3 wo)), some (.int (i3 (i : Int))), some (.int (i3 was))] [] (wI B J) := by
    intro mz
    induction mz using Nat.strongRecOn with
    | ind mz ih =>
      intro i J was cf hme hr hcfv hinv hrg
      have hcr : -1 ≤ cf ∧ cf ≤ 10 := by rcases hinv with ⟨h, -⟩ | ⟨h, -⟩ | ⟨p, h, -, hp⟩ <;> omega
      refine q_aload_n hG rfl rfl ?_
      refine q_getI0v (v := cf) hG rfl (by assumption) (hcfv) ?_
      refine q_if_ge hG rfl ⟨by omega, by omega⟩ (fun hc13 => ?_) (fun hc13 => ?_)
      · refine q_aload_n hG rfl rfl ?_
        refine q_getI0v (v := cf) hG rfl (by assumption) (hcfv) ?_
        refine q_if_ge hG rfl ⟨by omega, by omega⟩ (fun hc48 => ?_) (fun hc48 => ?_)
        · refine q_iconst (v := -1) hG rfl rfl ?_
          refine q_iret0 hG rfl rfl ?_
          obtain ⟨p, h1, h2, h3⟩ : ∃ p : Nat, cf = (p : Int) ∧ (stM (rnI I m) wa (I (m + 1) 1).toNat 1000 (rfS I m) 0).1 = some p ∧ p < (I (m + 1) 1).toNat := by
            rcases hinv with ⟨h, -⟩ | ⟨h, -⟩ | h
            · omega
            · omega
            · exact h
          exact p0 J p h2 h3 (hcfv.trans h1) hr
        · refine q_iload_n hG rfl rfl ?_
          refine q_goto hG rfl ?_
          refine q_iret0 hG rfl rfl ?_
          omega
      · refine q_iload_n hG rfl rfl ?_
        refine q_aload_n hG rfl rfl ?_
        refine q_getI0 hG rfl (by assumption) ?_
        have hrg2 := hrg (by omega)
        refine q_icmp_eq hG rfl ⟨by omega, by omega⟩ ⟨by omega, by omega⟩ (fun hc21 => ?_) (fun hc21 => ?_)
        · refine q_aload_n hG rfl rfl ?_
          refine q_getI0v (v := cf) hG rfl (by assumption) (hcfv) ?_
          refine q_if_ge hG rfl ⟨by omega, by omega⟩ (fun hc48 => ?_) (fun hc48 => ?_)
          · refine q_iconst (v := -1) hG rfl rfl ?_
            refine q_iret0 hG rfl rfl ?_
            omega
          · refine q_iload_n hG rfl rfl ?_
            refine q_goto hG rfl ?_
            refine q_iret0 hG rfl rfl ?_
            obtain ⟨-, -, h2⟩ : cf = -1 ∧ was = (rfS J m).2.2 ∧ stM (rnI I m) wa (I (m + 1) 1).toNat 1000 (rfS I m) 0 = (none, rfS J m, (i : Int)) := by
              rcases hinv with ⟨-, h, -⟩ | h | ⟨p, h, -⟩
              · exact absurd hc21 h
              · exact h
              · omega
            rw [show (i : Int) = (stM (rnI I m) wa (I (m + 1) 1).toNat 1000 (rfS I m) 0).2.2 by rw [h2]]
            exact p1 J (by rw [h2]) (by rw [h2]) hr
        · refine q_aload_n hG rfl rfl ?_
          refine q_getI0 hG rfl (by assumption) ?_
          refine q_istore_n hG rfl rfl ?_
          have hch2 : (rfS J m).2.2 = J m 10 := rfl
          have hinv1 : cf = -1 ∧ was ≠ (rfS J m).2.2 ∧ stM (rnI I m) wa (I (m + 1) 1).toNat (1000 - i) (rfS J m) (i : Int) = stM (rnI I m) wa (I (m + 1) 1).toNat 1000 (rfS I m) 0 ∧ okB (rfS J m) ∧ (i : Int) + wsm (rfS J m) ≤ wsm (rfS I m) ∧ nrw (rfS I m) (rfS J m) := by
            rcases hinv with h | ⟨-, h, -⟩ | ⟨p, h, -⟩
            · exact h
            · exact absurd h (by rw [hch2]; exact hc21)
            · omega
          obtain ⟨g1, g2, g3, g4, g5, g6⟩ := hinv1
          have g7 := okB_w g4
          have pk := paM_ok (wa := wa) (rWF_6 hcf) (I (m + 1) 1).toNat 0 (rfS J m) (by omega) g4
          clear hinv
          have e1000 : 1000 - i = (1000 - (i + 1)) + 1 := by omega
          refine q_aload_n hG rfl rfl ?_
          refine q_aload_n hG rfl rfl ?_
          refine q_iload_n hG rfl rfl ?_
          refine q_callV6 hG rfl rfl rfl (by assumption) (s_R_goes hm0 hwa (hr.wf hcf) g4 (fun J2 h1 h2 h3 => ?_) (fun J2 p h1 h2 h3 => ?_))
          · rw [hr.cn, hr.n 1 (by omega)] at h1 h2
            refine q_putI0 hG rfl (by assumption) ?_
            refine q_iinc (c := 1) hG rfl rfl rfl rfl ?_
            refine q_goto hG rfl ?_
            have e3 : (rfS J2 m).2.2 = J2 m 10 := rfl
            have q1 := pk.1.2.1
            have q2 := pk.1.2.2.1
            rw [← h2] at q1 q2
            have ok2 : okB (rfS J2 m) := by rw [h2]; exact pk.2.1 h1
            have w2 := okB_w ok2
            have hfr2 : rf2 I (st J2 m 11 (-1)) m := (hr.trans h3.two).trans (rf2.st11 _ _ _)
            have k10 : st J2 m 11 (-1) m 10 = J2 m 10 := st_ne _ _ (by omega)
            have g8 := g6.2.2.1
            have g9 := g6.2.1
            have z0 : (rfS I m).2.2 = I m 10 := rfl
            have hT : stM (rnI I m) wa (I (m + 1) 1).toNat 1000 (rfS I m) 0 = (if (rfS J2 m).2.2 = (rfS J m).2.2 then (none, rfS J2 m, (i : Int) + 1) else stM (rnI I m) wa (I (m + 1) 1).toNat (1000 - (i + 1)) (rfS J2 m) ((i : Int) + 1)) := by
              rw [← g3, e1000, stM, if_pos h1, ← h2]
            refine ih _ (by omega) (i + 1) _ _ _ rfl hfr2 (st_same _ _ _ _) ?_ (fun _ => by rw [k10]; omega)
            rw [rfS_11]
            by_cases e : (rfS J2 m).2.2 = (rfS J m).2.2
            · rw [if_pos e] at hT
              exact Or.inr (Or.inl ⟨rfl, e.symm, hT⟩)
            · rw [if_neg e] at hT
              refine Or.inl ⟨rfl, fun z => e z.symm, hT.symm, ok2, ?_, g6.trans (by rw [h2]; exact pk.1)⟩
              have : ((i + 1 : Nat) : Int) = (i : Int) + 1 := rfl
              omega
          · rw [hr.cn, hr.n 1 (by omega)] at h1
            rw [hr.n 1 (by omega)] at h2
            refine q_putI0 hG rfl (by assumption) ?_
            refine q_iinc (c := 1) hG rfl rfl rfl rfl ?_
            refine q_goto hG rfl ?_
            have hT : (stM (rnI I m) wa (I (m + 1) 1).toNat 1000 (rfS I m) 0).1 = some p := by
              rw [← g3, e1000, stM, if_neg (by rw [h1]; intro z; cases z), h1]
            exact ih _ (by omega) (i + 1) _ _ _ rfl ((hr.trans h3.two).trans (rf2.st11 _ _ _)) (st_same _ _ _ _) (Or.inr (Or.inr ⟨p, rfl, hT, h2⟩)) (fun z => by omega)
  show G 0 [some (.ref m), some (.int (i3 (wo))), none, none] [] (wI B I)
  refine q_iconst (v := 0) hG rfl rfl ?_
  refine q_istore_n hG rfl rfl ?_
  refine q_iconst (v := -1) hG rfl rfl ?_
  refine q_istore_n hG rfl rfl ?_
  refine q_aload_n hG rfl rfl ?_
  refine q_iconst (v := -1) hG rfl rfl ?_
  refine q_putI0 hG rfl (by assumption) ?_
  refine lp _ 0 _ (-1) (-1) rfl (rf2.st11 _ _ _) (st_same _ _ _ _) ?_ (fun _ => by rw [st_ne _ _ (by omega)]; omega)
  rw [rfS_11]
  exact Or.inl ⟨rfl, fun z => by have z : -1 = I m 10 := z; omega, rfl, hS, by omega, nrw.refl _⟩
