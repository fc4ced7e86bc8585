/-! the reference: what it tells -/
theorem s_R_told {d : Nat} {B : HP} {I : IM} {Post : Out → HP → Prop} {m : Nat} (hm : oM B m) {R : RW} {q : Int} (hR : RepM I m 0 R) (hW : WfR q R) (hq : q ≤ 2000000000) {w : Nat} (hw : w < 5) (p1 : Post (.inl (some (.int (i3 (R w))))) (wI B (st I m 0 0))) : Sp (d + 1) k_X9_told [.ref m, .int (i3 ((w : Int)))] (wI B I) Post := by
  refine Sp_intro md_X9_told rfl rfl (fun G hG => ?_)
  have hm0 := hm
  obtain ⟨n1, n2, n3, n4, n5, n6, n7, n8, n9, n10, n11⟩ := hm
  have hR0 : ∀ j, j < 79 → I (m + 1) j = R j := hR.at
  have hRs : ∀ z : Int, ∀ j, j < 79 → st I m 0 z (m + 1) j = R j := fun z j hj => by rw [st_row _ _ (by omega)]; exact hR0 j hj
  have hW0 := hW
  obtain ⟨w0, w1, w2, w3, w4, wd, wc⟩ := hW
  have hdb : ∀ k, k < 6 → (0 ≤ R (5 + 4 * k + 2) ∧ R (5 + 4 * k + 2) ≤ 40) ∧ (0 ≤ R (5 + 4 * k + 3) ∧ R (5 + 4 * k + 3) ≤ 40) ∧ R (5 + 4 * k + 2) ≤ R (5 + 4 * k + 3) := fun k hk => by have u := (wd k hk).1; omega
  show G 0 [some (.ref m), some (.int (i3 ((w : Int))))] [] (wI B I)
  refine q_aload_n hG rfl rfl ?_
  refine q_iconst (v := 0) hG rfl rfl ?_
  refine q_putI0 hG rfl (by assumption) ?_
  refine q_aload_n hG rfl rfl ?_
  refine q_getR hG rfl (by assumption) (by assumption) ?_
  refine q_iload_n hG rfl rfl ?_
  refine q_ialdv (v := R w) hG rfl (by assumption) ⟨by omega, by omega, by omega⟩ (by show st I m 0 0 (m + 1) w = R w; exact hRs 0 w (by omega)) ?_
  refine q_iret0 hG rfl rfl ?_
  exact p1
theorem s_R_doorCount {d : Nat} {B : HP} {I : IM} {Post : Out → HP → Prop} {m : Nat} (hm : oM B m) {R : RW} {q : Int} (hR : RepM I m 0 R) (hW : WfR q R) (hq : q ≤ 2000000000)  (p1 : Post (.inl (some (.int (i3 (R 0))))) (wI B (st I m 0 0))) : Sp (d + 2) k_X9_doorCount [.ref m] (wI B I) Post := by
  refine Sp_intro md_X9_doorCount rfl rfl (fun G hG => ?_)
  have hm0 := hm
  obtain ⟨n1, n2, n3, n4, n5, n6, n7, n8, n9, n10, n11⟩ := hm
  have hR0 : ∀ j, j < 79 → I (m + 1) j = R j := hR.at
  have hRs : ∀ z : Int, ∀ j, j < 79 → st I m 0 z (m + 1) j = R j := fun z j hj => by rw [st_row _ _ (by omega)]; exact hR0 j hj
  have hW0 := hW
  obtain ⟨w0, w1, w2, w3, w4, wd, wc⟩ := hW
  have hdb : ∀ k, k < 6 → (0 ≤ R (5 + 4 * k + 2) ∧ R (5 + 4 * k + 2) ≤ 40) ∧ (0 ≤ R (5 + 4 * k + 3) ∧ R (5 + 4 * k + 3) ≤ 40) ∧ R (5 + 4 * k + 2) ≤ R (5 + 4 * k + 3) := fun k hk => by have u := (wd k hk).1; omega
  show G 0 [some (.ref m)] [] (wI B I)
  refine q_aload_n hG rfl rfl ?_
  refine q_iconst (v := 0) hG rfl rfl ?_
  refine q_callV6 hG rfl rfl rfl (by assumption) (s_R_told (w := 0) hm0 hR hW0 hq (by decide) ?_)
  refine q_iret0 hG rfl rfl ?_
  exact p1
theorem s_R_constraintCount {d : Nat} {B : HP} {I : IM} {Post : Out → HP → Prop} {m : Nat} (hm : oM B m) {R : RW} {q : Int} (hR : RepM I m 0 R) (hW : WfR q R) (hq : q ≤ 2000000000)  (p1 : Post (.inl (some (.int (i3 (R 1))))) (wI B (st I m 0 0))) : Sp (d + 2) k_X9_constraintCount [.ref m] (wI B I) Post := by
  refine Sp_intro md_X9_constraintCount rfl rfl (fun G hG => ?_)
  have hm0 := hm
  obtain ⟨n1, n2, n3, n4, n5, n6, n7, n8, n9, n10, n11⟩ := hm
  have hR0 : ∀ j, j < 79 → I (m + 1) j = R j := hR.at
  have hRs : ∀ z : Int, ∀ j, j < 79 → st I m 0 z (m + 1) j = R j := fun z j hj => by rw [st_row _ _ (by omega)]; exact hR0 j hj
  have hW0 := hW
  obtain ⟨w0, w1, w2, w3, w4, wd, wc⟩ := hW
  have hdb : ∀ k, k < 6 → (0 ≤ R (5 + 4 * k + 2) ∧ R (5 + 4 * k + 2) ≤ 40) ∧ (0 ≤ R (5 + 4 * k + 3) ∧ R (5 + 4 * k + 3) ≤ 40) ∧ R (5 + 4 * k + 2) ≤ R (5 + 4 * k + 3) := fun k hk => by have u := (wd k hk).1; omega
  show G 0 [some (.ref m)] [] (wI B I)
  refine q_aload_n hG rfl rfl ?_
  refine q_iconst (v := 1) hG rfl rfl ?_
  refine q_callV6 hG rfl rfl rfl (by assumption) (s_R_told (w := 1) hm0 hR hW0 hq (by decide) ?_)
  refine q_iret0 hG rfl rfl ?_
  exact p1
theorem s_R_passCount {d : Nat} {B : HP} {I : IM} {Post : Out → HP → Prop} {m : Nat} (hm : oM B m) {R : RW} {q : Int} (hR : RepM I m 0 R) (hW : WfR q R) (hq : q ≤ 2000000000)  (p1 : Post (.inl (some (.int (i3 (R 3))))) (wI B (st I m 0 0))) : Sp (d + 2) k_X9_passCount [.ref m] (wI B I) Post := by
  refine Sp_intro md_X9_passCount rfl rfl (fun G hG => ?_)
  have hm0 := hm
  obtain ⟨n1, n2, n3, n4, n5, n6, n7, n8, n9, n10, n11⟩ := hm
  have hR0 : ∀ j, j < 79 → I (m + 1) j = R j := hR.at
  have hRs : ∀ z : Int, ∀ j, j < 79 → st I m 0 z (m + 1) j = R j := fun z j hj => by rw [st_row _ _ (by omega)]; exact hR0 j hj
  have hW0 := hW
  obtain ⟨w0, w1, w2, w3, w4, wd, wc⟩ := hW
  have hdb : ∀ k, k < 6 → (0 ≤ R (5 + 4 * k + 2) ∧ R (5 + 4 * k + 2) ≤ 40) ∧ (0 ≤ R (5 + 4 * k + 3) ∧ R (5 + 4 * k + 3) ≤ 40) ∧ R (5 + 4 * k + 2) ≤ R (5 + 4 * k + 3) := fun k hk => by have u := (wd k hk).1; omega
  show G 0 [some (.ref m)] [] (wI B I)
  refine q_aload_n hG rfl rfl ?_
  refine q_iconst (v := 3) hG rfl rfl ?_
  refine q_callV6 hG rfl rfl rfl (by assumption) (s_R_told (w := 3) hm0 hR hW0 hq (by decide) ?_)
  refine q_iret0 hG rfl rfl ?_
  exact p1
theorem s_R_changeCount {d : Nat} {B : HP} {I : IM} {Post : Out → HP → Prop} {m : Nat} (hm : oM B m) {R : RW} {q : Int} (hR : RepM I m 0 R) (hW : WfR q R) (hq : q ≤ 2000000000)  (p1 : Post (.inl (some (.int (i3 (R 4))))) (wI B (st I m 0 0))) : Sp (d + 2) k_X9_changeCount [.ref m] (wI B I) Post := by
  refine Sp_intro md_X9_changeCount rfl rfl (fun G hG => ?_)
  have hm0 := hm
  obtain ⟨n1, n2, n3, n4, n5, n6, n7, n8, n9, n10, n11⟩ := hm
  have hR0 : ∀ j, j < 79 → I (m + 1) j = R j := hR.at
  have hRs : ∀ z : Int, ∀ j, j < 79 → st I m 0 z (m + 1) j = R j := fun z j hj => by rw [st_row _ _ (by omega)]; exact hR0 j hj
  have hW0 := hW
  obtain ⟨w0, w1, w2, w3, w4, wd, wc⟩ := hW
  have hdb : ∀ k, k < 6 → (0 ≤ R (5 + 4 * k + 2) ∧ R (5 + 4 * k + 2) ≤ 40) ∧ (0 ≤ R (5 + 4 * k + 3) ∧ R (5 + 4 * k + 3) ≤ 40) ∧ R (5 + 4 * k + 2) ≤ R (5 + 4 * k + 3) := fun k hk => by have u := (wd k hk).1; omega
  show G 0 [some (.ref m)] [] (wI B I)
  refine q_aload_n hG rfl rfl ?_
  refine q_iconst (v := 4) hG rfl rfl ?_
  refine q_callV6 hG rfl rfl rfl (by assumption) (s_R_told (w := 4) hm0 hR hW0 hq (by decide) ?_)
  refine q_iret0 hG rfl rfl ?_
  exact p1
theorem s_R_ofDoor {d : Nat} {B : HP} {I : IM} {Post : Out → HP → Prop} {m : Nat} (hm : oM B m) {R : RW} {q : Int} (hR : RepM I m 0 R) (hW : WfR q R) (hq : q ≤ 2000000000) {x : Int} (hv : r32 x) {w : Nat} (hw : w < 4) (pE : ¬ (0 ≤ x ∧ x < R 0) → Post (.inl (some (.int (i3 0)))) (wI B (st I m 0 1))) (p1 : 0 ≤ x ∧ x < R 0 → Post (.inl (some (.int (i3 (R (5 + 4 * x.toNat + w)))))) (wI B (st I m 0 0))) : Sp (d + 4) k_X9_ofDoor [.ref m, .int (i3 (x)), .int (i3 ((w : Int)))] (wI B I) Post := by
  refine Sp_intro md_X9_ofDoor rfl rfl (fun G hG => ?_)
  have hm0 := hm
  obtain ⟨n1, n2, n3, n4, n5, n6, n7, n8, n9, n10, n11⟩ := hm
  have hR0 : ∀ j, j < 79 → I (m + 1) j = R j := hR.at
  have hRs : ∀ z : Int, ∀ j, j < 79 → st I m 0 z (m + 1) j = R j := fun z j hj => by rw [st_row _ _ (by omega)]; exact hR0 j hj
  have hW0 := hW
  obtain ⟨w0, w1, w2, w3, w4, wd, wc⟩ := hW
  have hdb : ∀ k, k < 6 → (0 ≤ R (5 + 4 * k + 2) ∧ R (5 + 4 * k + 2) ≤ 40) ∧ (0 ≤ R (5 + 4 * k + 3) ∧ R (5 + 4 * k + 3) ≤ 40) ∧ R (5 + 4 * k + 2) ≤ R (5 + 4 * k + 3) := fun k hk => by have u := (wd k hk).1; omega
  show G 0 [some (.ref m), some (.int (i3 (x))), some (.int (i3 ((w : Int))))] [] (wI B I)
  refine q_aload_n hG rfl rfl ?_
  refine q_aload_n hG rfl rfl ?_
  refine q_iload_n hG rfl rfl ?_
  refine q_callV6 hG rfl rfl rfl (by assumption) (s_R_isDoor hm0 hv (by rw [hR0 0 (by omega)]; exact w0) (fun hd => ?_) (fun hd => ?_))
  · rw [hR0 0 (by omega)] at hd
    refine q_callV6 hG rfl rfl rfl (by assumption) (s_R_fine1 hm0 ?_)
    refine q_if_eq hG rfl ⟨by omega, by omega⟩ (fun q => absurd q (by decide)) (fun _ => ?_)
    refine q_aload_n hG rfl rfl ?_
    refine q_iload_n hG rfl rfl ?_
    refine q_iload_n hG rfl rfl ?_
    refine q_callV6 hG rfl rfl rfl (by assumption) (s_R_d (w := w) hm0 ⟨by omega, by omega⟩ hw ?_)
    rw [show dR (st I m 0 0) m x.toNat w = R (5 + 4 * x.toNat + w) from hRs 0 _ (by omega)]
    refine q_goto hG rfl ?_
    refine q_iret0 hG rfl rfl ?_
    first
    | exact p1 hd
    | exact pE hd
  · rw [hR0 0 (by omega)] at hd
    refine q_callV6 hG rfl rfl rfl (by assumption) (s_R_fine0 hm0 ?_)
    refine q_if_eq hG rfl ⟨by omega, by omega⟩ (fun _ => ?_) (fun q => absurd (by decide) q)
    refine q_iconst (v := 0) hG rfl rfl ?_
    refine q_iret0 hG rfl rfl ?_
    first
    | exact p1 hd
    | exact pE hd
theorem s_R_lowOf {d : Nat} {B : HP} {I : IM} {Post : Out → HP → Prop} {m : Nat} (hm : oM B m) {R : RW} {q : Int} (hR : RepM I m 0 R) (hW : WfR q R) (hq : q ≤ 2000000000) {x : Int} (hv : r32 x) (pE : ¬ (0 ≤ x ∧ x < R 0) → Post (.inl (some (.int (i3 0)))) (wI B (st I m 0 1))) (p1 : 0 ≤ x ∧ x < R 0 → Post (.inl (some (.int (i3 (R (5 + 4 * x.toNat + 2)))))) (wI B (st I m 0 0))) : Sp (d + 5) k_X9_lowOf [.ref m, .int (i3 (x))] (wI B I) Post := by
  refine Sp_intro md_X9_lowOf rfl rfl (fun G hG => ?_)
  have hm0 := hm
  obtain ⟨n1, n2, n3, n4, n5, n6, n7, n8, n9, n10, n11⟩ := hm
  have hR0 : ∀ j, j < 79 → I (m + 1) j = R j := hR.at
  have hRs : ∀ z : Int, ∀ j, j < 79 → st I m 0 z (m + 1) j = R j := fun z j hj => by rw [st_row _ _ (by omega)]; exact hR0 j hj
  have hW0 := hW
  obtain ⟨w0, w1, w2, w3, w4, wd, wc⟩ := hW
  have hdb : ∀ k, k < 6 → (0 ≤ R (5 + 4 * k + 2) ∧ R (5 + 4 * k + 2) ≤ 40) ∧ (0 ≤ R (5 + 4 * k + 3) ∧ R (5 + 4 * k + 3) ≤ 40) ∧ R (5 + 4 * k + 2) ≤ R (5 + 4 * k + 3) := fun k hk => by have u := (wd k hk).1; omega
  show G 0 [some (.ref m), some (.int (i3 (x)))] [] (wI B I)
  refine q_aload_n hG rfl rfl ?_
  refine q_iload_n hG rfl rfl ?_
  refine q_iconst (v := 2) hG rfl rfl ?_
  refine q_callV6 hG rfl rfl rfl (by assumption) (s_R_ofDoor (w := 2) hm0 hR hW0 hq hv (by decide) (fun hd => ?_) (fun hd => ?_))
  · refine q_iret0 hG rfl rfl ?_
    first
    | exact p1 hd
    | exact pE hd
  · refine q_iret0 hG rfl rfl ?_
    first
    | exact p1 hd
    | exact pE hd
theorem s_R_highOf {d : Nat} {B : HP} {I : IM} {Post : Out → HP → Prop} {m : Nat} (hm : oM B m) {R : RW} {q : Int} (hR : RepM I m 0 R) (hW : WfR q R) (hq : q ≤ 2000000000) {x : Int} (hv : r32 x) (pE : ¬ (0 ≤ x ∧ x < R 0) → Post (.inl (some (.int (i3 0)))) (wI B (st I m 0 1))) (p1 : 0 ≤ x ∧ x < R 0 → Post (.inl (some (.int (i3 (R (5 + 4 * x.toNat + 3)))))) (wI B (st I m 0 0))) : Sp (d + 5) k_X9_highOf [.ref m, .int (i3 (x))] (wI B I) Post := by
  refine Sp_intro md_X9_highOf rfl rfl (fun G hG => ?_)
  have hm0 := hm
  obtain ⟨n1, n2, n3, n4, n5, n6, n7, n8, n9, n10, n11⟩ := hm
  have hR0 : ∀ j, j < 79 → I (m + 1) j = R j := hR.at
  have hRs : ∀ z : Int, ∀ j, j < 79 → st I m 0 z (m + 1) j = R j := fun z j hj => by rw [st_row _ _ (by omega)]; exact hR0 j hj
  have hW0 := hW
  obtain ⟨w0, w1, w2, w3, w4, wd, wc⟩ := hW
  have hdb : ∀ k, k < 6 → (0 ≤ R (5 + 4 * k + 2) ∧ R (5 + 4 * k + 2) ≤ 40) ∧ (0 ≤ R (5 + 4 * k + 3) ∧ R (5 + 4 * k + 3) ≤ 40) ∧ R (5 + 4 * k + 2) ≤ R (5 + 4 * k + 3) := fun k hk => by have u := (wd k hk).1; omega
  show G 0 [some (.ref m), some (.int (i3 (x)))] [] (wI B I)
  refine q_aload_n hG rfl rfl ?_
  refine q_iload_n hG rfl rfl ?_
  refine q_iconst (v := 3) hG rfl rfl ?_
  refine q_callV6 hG rfl rfl rfl (by assumption) (s_R_ofDoor (w := 3) hm0 hR hW0 hq hv (by decide) (fun hd => ?_) (fun hd => ?_))
  · refine q_iret0 hG rfl rfl ?_
    first
    | exact p1 hd
    | exact pE hd
  · refine q_iret0 hG rfl rfl ?_
    first
    | exact p1 hd
    | exact pE hd
theorem s_R_frameLow {d : Nat} {B : HP} {I : IM} {Post : Out → HP → Prop} {m : Nat} (hm : oM B m) {R : RW} {q : Int} (hR : RepM I m 0 R) (hW : WfR q R) (hq : q ≤ 2000000000) {x : Int} (hv : r32 x) (pE : ¬ (0 ≤ x ∧ x < R 0) → Post (.inl (some (.int (i3 0)))) (wI B (st I m 0 1))) (p1 : 0 ≤ x ∧ x < R 0 → Post (.inl (some (.int (i3 (R (5 + 4 * x.toNat)))))) (wI B (st I m 0 0))) : Sp (d + 5) k_X9_frameLow [.ref m, .int (i3 (x))] (wI B I) Post := by
  refine Sp_intro md_X9_frameLow rfl rfl (fun G hG => ?_)
  have hm0 := hm
  obtain ⟨n1, n2, n3, n4, n5, n6, n7, n8, n9, n10, n11⟩ := hm
  have hR0 : ∀ j, j < 79 → I (m + 1) j = R j := hR.at
  have hRs : ∀ z : Int, ∀ j, j < 79 → st I m 0 z (m + 1) j = R j := fun z j hj => by rw [st_row _ _ (by omega)]; exact hR0 j hj
  have hW0 := hW
  obtain ⟨w0, w1, w2, w3, w4, wd, wc⟩ := hW
  have hdb : ∀ k, k < 6 → (0 ≤ R (5 + 4 * k + 2) ∧ R (5 + 4 * k + 2) ≤ 40) ∧ (0 ≤ R (5 + 4 * k + 3) ∧ R (5 + 4 * k + 3) ≤ 40) ∧ R (5 + 4 * k + 2) ≤ R (5 + 4 * k + 3) := fun k hk => by have u := (wd k hk).1; omega
  show G 0 [some (.ref m), some (.int (i3 (x)))] [] (wI B I)
  refine q_aload_n hG rfl rfl ?_
  refine q_iload_n hG rfl rfl ?_
  refine q_iconst (v := 0) hG rfl rfl ?_
  refine q_callV6 hG rfl rfl rfl (by assumption) (s_R_ofDoor (w := 0) hm0 hR hW0 hq hv (by decide) (fun hd => ?_) (fun hd => ?_))
  · refine q_iret0 hG rfl rfl ?_
    first
    | exact p1 hd
    | exact pE hd
  · refine q_iret0 hG rfl rfl ?_
    first
    | exact p1 hd
    | exact pE hd
theorem s_R_frameHigh {d : Nat} {B : HP} {I : IM} {Post : Out → HP → Prop} {m : Nat} (hm : oM B m) {R : RW} {q : Int} (hR : RepM I m 0 R) (hW : WfR q R) (hq : q ≤ 2000000000) {x : Int} (hv : r32 x) (pE : ¬ (0 ≤ x ∧ x < R 0) → Post (.inl (some (.int (i3 0)))) (wI B (st I m 0 1))) (p1 : 0 ≤ x ∧ x < R 0 → Post (.inl (some (.int (i3 (R (5 + 4 * x.toNat + 1)))))) (wI B (st I m 0 0))) : Sp (d + 5) k_X9_frameHigh [.ref m, .int (i3 (x))] (wI B I) Post := by
  refine Sp_intro md_X9_frameHigh rfl rfl (fun G hG => ?_)
  have hm0 := hm
  obtain ⟨n1, n2, n3, n4, n5, n6, n7, n8, n9, n10, n11⟩ := hm
  have hR0 : ∀ j, j < 79 → I (m + 1) j = R j := hR.at
  have hRs : ∀ z : Int, ∀ j, j < 79 → st I m 0 z (m + 1) j = R j := fun z j hj => by rw [st_row _ _ (by omega)]; exact hR0 j hj
  have hW0 := hW
  obtain ⟨w0, w1, w2, w3, w4, wd, wc⟩ := hW
  have hdb : ∀ k, k < 6 → (0 ≤ R (5 + 4 * k + 2) ∧ R (5 + 4 * k + 2) ≤ 40) ∧ (0 ≤ R (5 + 4 * k + 3) ∧ R (5 + 4 * k + 3) ≤ 40) ∧ R (5 + 4 * k + 2) ≤ R (5 + 4 * k + 3) := fun k hk => by have u := (wd k hk).1; omega
  show G 0 [some (.ref m), some (.int (i3 (x)))] [] (wI B I)
  refine q_aload_n hG rfl rfl ?_
  refine q_iload_n hG rfl rfl ?_
  refine q_iconst (v := 1) hG rfl rfl ?_
  refine q_callV6 hG rfl rfl rfl (by assumption) (s_R_ofDoor (w := 1) hm0 hR hW0 hq hv (by decide) (fun hd => ?_) (fun hd => ?_))
  · refine q_iret0 hG rfl rfl ?_
    first
    | exact p1 hd
    | exact pE hd
  · refine q_iret0 hG rfl rfl ?_
    first
    | exact p1 hd
    | exact pE hd
theorem s_R_widthOf {d : Nat} {B : HP} {I : IM} {Post : Out → HP → Prop} {m : Nat} (hm : oM B m) {R : RW} {q : Int} (hR : RepM I m 0 R) (hW : WfR q R) (hq : q ≤ 2000000000) {x : Int} (hv : r32 x) (pE : ¬ (0 ≤ x ∧ x < R 0) → Post (.inl (some (.int (i3 0)))) (wI B (st I m 0 1))) (p1 : 0 ≤ x ∧ x < R 0 → Post (.inl (some (.int (i3 (wdR R x.toNat))))) (wI B (st I m 0 0))) : Sp (d + 4) k_X9_widthOf [.ref m, .int (i3 (x))] (wI B I) Post := by
  refine Sp_intro md_X9_widthOf rfl rfl (fun G hG => ?_)
  have hm0 := hm
  obtain ⟨n1, n2, n3, n4, n5, n6, n7, n8, n9, n10, n11⟩ := hm
  have hR0 : ∀ j, j < 79 → I (m + 1) j = R j := hR.at
  have hRs : ∀ z : Int, ∀ j, j < 79 → st I m 0 z (m + 1) j = R j := fun z j hj => by rw [st_row _ _ (by omega)]; exact hR0 j hj
  have hW0 := hW
  obtain ⟨w0, w1, w2, w3, w4, wd, wc⟩ := hW
  have hdb : ∀ k, k < 6 → (0 ≤ R (5 + 4 * k + 2) ∧ R (5 + 4 * k + 2) ≤ 40) ∧ (0 ≤ R (5 + 4 * k + 3) ∧ R (5 + 4 * k + 3) ≤ 40) ∧ R (5 + 4 * k + 2) ≤ R (5 + 4 * k + 3) := fun k hk => by have u := (wd k hk).1; omega
  show G 0 [some (.ref m), some (.int (i3 (x)))] [] (wI B I)
  refine q_aload_n hG rfl rfl ?_
  refine q_aload_n hG rfl rfl ?_
  refine q_iload_n hG rfl rfl ?_
  refine q_callV6 hG rfl rfl rfl (by assumption) (s_R_isDoor hm0 hv (by rw [hR0 0 (by omega)]; exact w0) (fun hd => ?_) (fun hd => ?_))
  · rw [hR0 0 (by omega)] at hd
    refine q_callV6 hG rfl rfl rfl (by assumption) (s_R_fine1 hm0 ?_)
    refine q_if_eq hG rfl ⟨by omega, by omega⟩ (fun q => absurd q (by decide)) (fun _ => ?_)
    refine q_aload_n hG rfl rfl ?_
    refine q_iload_n hG rfl rfl ?_
    refine q_callV6 hG rfl rfl rfl (by assumption) (s_R_width hm0 ⟨by omega, by omega⟩ ?_)
    rw [show dR (st I m 0 0) m x.toNat 3 - dR (st I m 0 0) m x.toNat 2 + 1 = wdR R x.toNat from by unfold dR; rw [hRs 0 _ (by omega), hRs 0 _ (by omega)]; rfl]
    refine q_goto hG rfl ?_
    refine q_iret0 hG rfl rfl ?_
    first
    | exact p1 hd
    | exact pE hd
  · rw [hR0 0 (by omega)] at hd
    refine q_callV6 hG rfl rfl rfl (by assumption) (s_R_fine0 hm0 ?_)
    refine q_if_eq hG rfl ⟨by omega, by omega⟩ (fun _ => ?_) (fun q => absurd (by decide) q)
    refine q_iconst (v := 0) hG rfl rfl ?_
    refine q_iret0 hG rfl rfl ?_
    first
    | exact p1 hd
    | exact pE hd
theorem s_R_isFixed {d : Nat} {B : HP} {I : IM} {Post : Out → HP → Prop} {m : Nat} (hm : oM B m) {R : RW} {q : Int} (hR : RepM I m 0 R) (hW : WfR q R) (hq : q ≤ 2000000000) {x : Int} (hv : r32 x) (pE : ¬ (0 ≤ x ∧ x < R 0) → Post (.inl (some (.int (i3 0)))) (wI B (st I m 0 1))) (p1 : 0 ≤ x ∧ x < R 0 → R (5 + 4 * x.toNat + 2) = R (5 + 4 * x.toNat + 3) → Post (.inl (some (.int (i3 1)))) (wI B (st I m 0 0))) (p0 : 0 ≤ x ∧ x < R 0 → ¬ R (5 + 4 * x.toNat + 2) = R (5 + 4 * x.toNat + 3) → Post (.inl (some (.int (i3 0)))) (wI B (st I m 0 0))) : Sp (d + 4) k_X9_isFixed [.ref m, .int (i3 (x))] (wI B I) Post := by
  refine Sp_intro md_X9_isFixed rfl rfl (fun G hG => ?_)
  have hm0 := hm
  obtain ⟨n1, n2, n3, n4, n5, n6, n7, n8, n9, n10, n11⟩ := hm
  have hR0 : ∀ j, j < 79 → I (m + 1) j = R j := hR.at
  have hRs : ∀ z : Int, ∀ j, j < 79 → st I m 0 z (m + 1) j = R j := fun z j hj => by rw [st_row _ _ (by omega)]; exact hR0 j hj
  have hW0 := hW
  obtain ⟨w0, w1, w2, w3, w4, wd, wc⟩ := hW
  have hdb : ∀ k, k < 6 → (0 ≤ R (5 + 4 * k + 2) ∧ R (5 + 4 * k + 2) ≤ 40) ∧ (0 ≤ R (5 + 4 * k + 3) ∧ R (5 + 4 * k + 3) ≤ 40) ∧ R (5 + 4 * k + 2) ≤ R (5 + 4 * k + 3) := fun k hk => by have u := (wd k hk).1; omega
  show G 0 [some (.ref m), some (.int (i3 (x)))] [] (wI B I)
  refine q_aload_n hG rfl rfl ?_
  refine q_aload_n hG rfl rfl ?_
  refine q_iload_n hG rfl rfl ?_
  refine q_callV6 hG rfl rfl rfl (by assumption) (s_R_isDoor hm0 hv (by rw [hR0 0 (by omega)]; exact w0) (fun hd => ?_) (fun hd => ?_))
  · rw [hR0 0 (by omega)] at hd
    refine q_callV6 hG rfl rfl rfl (by assumption) (s_R_fine1 hm0 ?_)
    refine q_if_eq hG rfl ⟨by omega, by omega⟩ (fun q => absurd q (by decide)) (fun _ => ?_)
    refine q_aload_n hG rfl rfl ?_
    refine q_iload_n hG rfl rfl ?_
    refine q_callV6 hG rfl rfl rfl (by assumption) (s_R_width hm0 ⟨by omega, by omega⟩ ?_)
    rw [show dR (st I m 0 0) m x.toNat 3 - dR (st I m 0 0) m x.toNat 2 + 1 = wdR R x.toNat from by unfold dR; rw [hRs 0 _ (by omega), hRs 0 _ (by omega)]; rfl]
    have ew : wdR R x.toNat = R (5 + 4 * x.toNat + 3) - R (5 + 4 * x.toNat + 2) + 1 := rfl
    have hdx := hdb x.toNat (by omega)
    refine q_iconst (v := 1) hG rfl rfl ?_
    refine q_icmp_ne hG rfl ⟨by omega, by omega⟩ ⟨by omega, by omega⟩ (fun hc18 => ?_) (fun hc18 => ?_)
    · refine q_iconst (v := 0) hG rfl rfl ?_
      refine q_iret5 hG rfl rfl (by decide) ?_
      first
      | exact pE hd
      | exact p0 hd (by omega)
    · refine q_iconst (v := 1) hG rfl rfl ?_
      refine q_goto hG rfl ?_
      refine q_iret5 hG rfl rfl (by decide) ?_
      exact p1 hd (by omega)
  · rw [hR0 0 (by omega)] at hd
    refine q_callV6 hG rfl rfl rfl (by assumption) (s_R_fine0 hm0 ?_)
    refine q_if_eq hG rfl ⟨by omega, by omega⟩ (fun _ => ?_) (fun q => absurd (by decide) q)
    refine q_iconst (v := 0) hG rfl rfl ?_
    refine q_iret5 hG rfl rfl (by decide) ?_
    first
    | exact pE hd
    | exact p0 hd (by omega)
theorem s_R_constraintsOf {d : Nat} {B : HP} {I : IM} {Post : Out → HP → Prop} {m : Nat} (hm : oM B m) {R : RW} {q : Int} (hR : RepM I m 0 R) (hW : WfR q R) (hq : q ≤ 2000000000) {x : Int} (hv : r32 x) (pE : ¬ (0 ≤ x ∧ x < R 0) → Post (.inl (some (.int (i3 0)))) (wI B (st I m 0 1))) (p1 : 0 ≤ x ∧ x < R 0 → Post (.inl (some (.int (i3 (tkR R x))))) (wI B (st I m 0 0))) : Sp (d + 4) k_X9_constraintsOf [.ref m, .int (i3 (x))] (wI B I) Post := by
  refine Sp_intro md_X9_constraintsOf rfl rfl (fun G hG => ?_)
  have hm0 := hm
  obtain ⟨n1, n2, n3, n4, n5, n6, n7, n8, n9, n10, n11⟩ := hm
  have hR0 : ∀ j, j < 79 → I (m + 1) j = R j := hR.at
  have hRs : ∀ z : Int, ∀ j, j < 79 → st I m 0 z (m + 1) j = R j := fun z j hj => by rw [st_row _ _ (by omega)]; exact hR0 j hj
  have hW0 := hW
  obtain ⟨w0, w1, w2, w3, w4, wd, wc⟩ := hW
  have hdb : ∀ k, k < 6 → (0 ≤ R (5 + 4 * k + 2) ∧ R (5 + 4 * k + 2) ≤ 40) ∧ (0 ≤ R (5 + 4 * k + 3) ∧ R (5 + 4 * k + 3) ≤ 40) ∧ R (5 + 4 * k + 2) ≤ R (5 + 4 * k + 3) := fun k hk => by have u := (wd k hk).1; omega
  have tkc : ∀ z : Int, ∀ k : Nat, (k : Int) < st I m 0 z (m + 1) 1 → r32 (cR (st I m 0 z) m k 2) ∧ r32 (cR (st I m 0 z) m k 3) := fun z k hk => by
    rw [hRs z 1 (by omega)] at hk
    rw [show cR (st I m 0 z) m k 2 = R (29 + 5 * k + 2) from hRs z _ (by omega), show cR (st I m 0 z) m k 3 = R (29 + 5 * k + 3) from hRs z _ (by omega)]
    obtain ⟨-, -, v3, v4, -⟩ := wc k hk
    exact ⟨⟨by omega, by omega⟩, ⟨by omega, by omega⟩⟩
  have tke : ∀ z x : Int, sm (fun k => if cR (st I m 0 z) m k 2 = x ∨ cR (st I m 0 z) m k 3 = x then 1 else 0) (st I m 0 z (m + 1) 1).toNat = tkR R x := fun z x => by
    rw [hRs z 1 (by omega)]
    unfold tkR
    refine sm_congr _ (fun k hk => ?_)
    rw [show cR (st I m 0 z) m k 2 = R (29 + 5 * k + 2) from hRs z _ (by omega), show cR (st I m 0 z) m k 3 = R (29 + 5 * k + 3) from hRs z _ (by omega)]
  show G 0 [some (.ref m), some (.int (i3 (x)))] [] (wI B I)
  refine q_aload_n hG rfl rfl ?_
  refine q_aload_n hG rfl rfl ?_
  refine q_iload_n hG rfl rfl ?_
  refine q_callV6 hG rfl rfl rfl (by assumption) (s_R_isDoor hm0 hv (by rw [hR0 0 (by omega)]; exact w0) (fun hd => ?_) (fun hd => ?_))
  · rw [hR0 0 (by omega)] at hd
    refine q_callV6 hG rfl rfl rfl (by assumption) (s_R_fine1 hm0 ?_)
    refine q_if_eq hG rfl ⟨by omega, by omega⟩ (fun q => absurd q (by decide)) (fun _ => ?_)
    refine q_aload_n hG rfl rfl ?_
    refine q_iload_n hG rfl rfl ?_
    refine q_callV6 hG rfl rfl rfl (by assumption) (s_R_takes (I := (st I m 0 0)) hm0 hv (by rw [hRs 0 1 (by omega)]; exact w1) (tkc 0) ?_)
    rw [tke 0 x]
    refine q_goto hG rfl ?_
    refine q_iret0 hG rfl rfl ?_
    first
    | exact p1 hd
    | exact pE hd
  · rw [hR0 0 (by omega)] at hd
    refine q_callV6 hG rfl rfl rfl (by assumption) (s_R_fine0 hm0 ?_)
    refine q_if_eq hG rfl ⟨by omega, by omega⟩ (fun _ => ?_) (fun q => absurd (by decide) q)
    refine q_iconst (v := 0) hG rfl rfl ?_
    refine q_iret0 hG rfl rfl ?_
    first
    | exact p1 hd
    | exact pE hd
theorem s_R_constraintAt {d : Nat} {B : HP} {I : IM} {Post : Out → HP → Prop} {m : Nat} (hm : oM B m) {R : RW} {q : Int} (hR : RepM I m 0 R) (hW : WfR q R) (hq : q ≤ 2000000000) {x : Int} (hv : r32 x) (pE : ¬ (0 ≤ x ∧ x < R 1) → Post (.inl (some (.int (i3 0)))) (wI B (st I m 0 1))) (p1 : 0 ≤ x ∧ x < R 1 → Post (.inl (some (.int (i3 (R (29 + 5 * x.toNat)))))) (wI B (st I m 0 0))) : Sp (d + 2) k_X9_constraintAt [.ref m, .int (i3 (x))] (wI B I) Post := by
  refine Sp_intro md_X9_constraintAt rfl rfl (fun G hG => ?_)
  have hm0 := hm
  obtain ⟨n1, n2, n3, n4, n5, n6, n7, n8, n9, n10, n11⟩ := hm
  have hR0 : ∀ j, j < 79 → I (m + 1) j = R j := hR.at
  have hRs : ∀ z : Int, ∀ j, j < 79 → st I m 0 z (m + 1) j = R j := fun z j hj => by rw [st_row _ _ (by omega)]; exact hR0 j hj
  have hW0 := hW
  obtain ⟨w0, w1, w2, w3, w4, wd, wc⟩ := hW
  have hdb : ∀ k, k < 6 → (0 ≤ R (5 + 4 * k + 2) ∧ R (5 + 4 * k + 2) ≤ 40) ∧ (0 ≤ R (5 + 4 * k + 3) ∧ R (5 + 4 * k + 3) ≤ 40) ∧ R (5 + 4 * k + 2) ≤ R (5 + 4 * k + 3) := fun k hk => by have u := (wd k hk).1; omega
  show G 0 [some (.ref m), some (.int (i3 (x)))] [] (wI B I)
  refine q_aload_n hG rfl rfl ?_
  refine q_iload_n hG rfl rfl ?_
  refine q_iconst (v := 0) hG rfl rfl ?_
  refine q_aload_n hG rfl rfl ?_
  refine q_getR hG rfl (by assumption) (by assumption) ?_
  refine q_iconst (v := 1) hG rfl rfl ?_
  refine q_ialdv (v := R 1) hG rfl (by assumption) ⟨by omega, by omega, by omega⟩ (hR0 1 (by omega)) ?_
  refine q_iconst (v := 1) hG rfl rfl ?_
  refine q_isub hG rfl ?_
  refine q_callS0 hG rfl rfl rfl (s_R_in hv r32_0 ⟨by omega, by omega⟩ (fun hd => ?_) (fun hd => ?_))
  · refine q_callV6 hG rfl rfl rfl (by assumption) (s_R_fine1 hm0 ?_)
    refine q_if_eq hG rfl ⟨by omega, by omega⟩ (fun q => absurd q (by decide)) (fun _ => ?_)
    refine q_aload_n hG rfl rfl ?_
    refine q_iload_n hG rfl rfl ?_
    refine q_iconst (v := 0) hG rfl rfl ?_
    refine q_callV6 hG rfl rfl rfl (by assumption) (s_R_c (w := 0) hm0 ⟨by omega, by omega⟩ (by decide) ?_)
    rw [show cR (st I m 0 0) m x.toNat 0 = R (29 + 5 * x.toNat) from hRs 0 _ (by omega)]
    refine q_goto hG rfl ?_
    refine q_iret0 hG rfl rfl ?_
    first
    | exact p1 (by omega)
    | exact pE (by omega)
  · refine q_callV6 hG rfl rfl rfl (by assumption) (s_R_fine0 hm0 ?_)
    refine q_if_eq hG rfl ⟨by omega, by omega⟩ (fun _ => ?_) (fun q => absurd (by decide) q)
    refine q_iconst (v := 0) hG rfl rfl ?_
    refine q_iret0 hG rfl rfl ?_
    first
    | exact p1 (by omega)
    | exact pE (by omega)
theorem fst_u {P : Nat → Prop} {n p q : Nat} (h : fst P n p) (h2 : fst P n q) : p = q := by
  rcases Nat.lt_trichotomy p q with e | e | e
  · exact absurd h.2.1 (h2.2.2 p e)
  · exact e
  · exact absurd h2.2.1 (h.2.2 q e)
theorem s_R_ofRule {d : Nat} {B : HP} {I : IM} {Post : Out → HP → Prop} {m : Nat} (hm : oM B m) {R : RW} {q : Int} (hR : RepM I m 0 R) (hW : WfR q R) (hq : q ≤ 2000000000) {x : Int} (hv : r32 x) {w : Nat} (hw : w < 5) (pE : noR R x → Post (.inl (some (.int (i3 0)))) (wI B (st I m 0 1))) (p1 : ∀ p : Nat, fdR R x p → Post (.inl (some (.int (i3 (R (29 + 5 * p + w)))))) (wI B (st I m 0 0))) : Sp (d + 3) k_X9_ofRule [.ref m, .int (i3 (x)), .int (i3 ((w : Int)))] (wI B I) Post := by
  refine Sp_intro md_X9_ofRule rfl rfl (fun G hG => ?_)
  have hm0 := hm
  obtain ⟨n1, n2, n3, n4, n5, n6, n7, n8, n9, n10, n11⟩ := hm
  have hR0 : ∀ j, j < 79 → I (m + 1) j = R j := hR.at
  have hRs : ∀ z : Int, ∀ j, j < 79 → st I m 0 z (m + 1) j = R j := fun z j hj => by rw [st_row _ _ (by omega)]; exact hR0 j hj
  have hW0 := hW
  obtain ⟨w0, w1, w2, w3, w4, wd, wc⟩ := hW
  have hdb : ∀ k, k < 6 → (0 ≤ R (5 + 4 * k + 2) ∧ R (5 + 4 * k + 2) ≤ 40) ∧ (0 ≤ R (5 + 4 * k + 3) ∧ R (5 + 4 * k + 3) ≤ 40) ∧ R (5 + 4 * k + 2) ≤ R (5 + 4 * k + 3) := fun k hk => by have u := (wd k hk).1; omega
  have rlr : ∀ z : Int, ∀ k : Nat, (k : Int) < st I m 0 z (m + 1) 1 → r32 (cR (st I m 0 z) m k 0) := fun z k hk => by
    rw [hRs z 1 (by omega)] at hk
    rw [show cR (st I m 0 z) m k 0 = R (29 + 5 * k) from hRs z _ (by omega)]
    have g := (wc k hk).1
    exact ⟨by omega, by omega⟩
  have rl0 : ∀ k : Nat, (k : Int) < I (m + 1) 1 → r32 (cR I m k 0) := fun k hk => by
    rw [hR0 1 (by omega)] at hk
    rw [show cR I m k 0 = R (29 + 5 * k) from hR0 _ (by omega)]
    have g := (wc k hk).1
    exact ⟨by omega, by omega⟩
  have fe : ∀ (K : IM) (x : Int) (p : Nat), (∀ j, j < 79 → K (m + 1) j = R j) → fst (fun k => cR K m k 0 = x) (K (m + 1) 1).toNat p → fdR R x p := fun K x p hK hf => by
    rw [hK 1 (by omega)] at hf
    exact fst_c (fun k hk => by rw [show cR K m k 0 = R (29 + 5 * k) from hK _ (by omega)]) hf
  have ne : ∀ (K : IM) (x : Int), (∀ j, j < 79 → K (m + 1) j = R j) → (∀ k, k < (K (m + 1) 1).toNat → ¬ cR K m k 0 = x) → noR R x := fun K x hK hf k hk z => by
    rw [hK 1 (by omega)] at hf
    exact hf k hk (by rw [show cR K m k 0 = R (29 + 5 * k) from hK _ (by omega)]; exact z)
  show G 0 [some (.ref m), some (.int (i3 (x))), some (.int (i3 ((w : Int))))] [] (wI B I)
  refine q_aload_n hG rfl rfl ?_
  refine q_aload_n hG rfl rfl ?_
  refine q_iload_n hG rfl rfl ?_
  refine q_callV6 hG rfl rfl rfl (by assumption) (s_R_rule hm0 hv (by rw [hR0 1 (by omega)]; exact w1) rl0 (fun p hf => ?_) (fun hf => ?_))
  · have hf := fe I x p hR0 hf
    have hpl := hf.1
    refine q_if_lt hG rfl ⟨by omega, by omega⟩ (fun hc6 => ?_) (fun hc6 => ?_)
    · refine q_iconst (v := 0) hG rfl rfl ?_
      refine q_callV6 hG rfl rfl rfl (by assumption) (s_R_fine0 hm0 ?_)
      refine q_if_eq hG rfl ⟨by omega, by omega⟩ (fun _ => ?_) (fun q => absurd (by decide) q)
      refine q_iconst (v := 0) hG rfl rfl ?_
      refine q_iret0 hG rfl rfl ?_
      first
      | exact p1 _ hf
      | exact pE hf
      | omega
    · refine q_iconst (v := 1) hG rfl rfl ?_
      refine q_goto hG rfl ?_
      refine q_callV6 hG rfl rfl rfl (by assumption) (s_R_fine1 hm0 ?_)
      refine q_if_eq hG rfl ⟨by omega, by omega⟩ (fun q => absurd q (by decide)) (fun _ => ?_)
      refine q_aload_n hG rfl rfl ?_
      refine q_aload_n hG rfl rfl ?_
      refine q_iload_n hG rfl rfl ?_
      refine q_callV6 hG rfl rfl rfl (by assumption) (s_R_rule (I := (st I m 0 0)) hm0 hv (by rw [hRs 0 1 (by omega)]; exact w1) (rlr 0) (fun p2 hf2 => ?_) (fun hf2 => ?_))
      · have hf2 := fe (st I m 0 0) x p2 (hRs 0) hf2
        have ep : p2 = p := fst_u hf2 hf
        subst ep
        refine q_iload_n hG rfl rfl ?_
        refine q_callV6 hG rfl rfl rfl (by assumption) (s_R_cN (x := p2) (w := w) hm0 (by omega) hw ?_)
        rw [show cR (st I m 0 0) m p2 w = R (29 + 5 * p2 + w) from hRs 0 _ (by omega)]
        refine q_goto hG rfl ?_
        refine q_iret0 hG rfl rfl ?_
        first
        | exact p1 _ hf
        | exact pE hf
        | omega
      · exact absurd hf.2.1 (ne (st I m 0 0) x (hRs 0) hf2 p hf.1)
  · have hf := ne I x hR0 hf
    refine q_if_lt hG rfl ⟨by omega, by omega⟩ (fun _ => ?_) (fun q => absurd (by decide) q)
    refine q_iconst (v := 0) hG rfl rfl ?_
    refine q_callV6 hG rfl rfl rfl (by assumption) (s_R_fine0 hm0 ?_)
    refine q_if_eq hG rfl ⟨by omega, by omega⟩ (fun _ => ?_) (fun q => absurd (by decide) q)
    refine q_iconst (v := 0) hG rfl rfl ?_
    refine q_iret0 hG rfl rfl ?_
    first
    | exact p1 _ hf
    | exact pE hf
    | omega
theorem s_R_firstOf {d : Nat} {B : HP} {I : IM} {Post : Out → HP → Prop} {m : Nat} (hm : oM B m) {R : RW} {q : Int} (hR : RepM I m 0 R) (hW : WfR q R) (hq : q ≤ 2000000000) {x : Int} (hv : r32 x) (pE : noR R x → Post (.inl (some (.int (i3 0)))) (wI B (st I m 0 1))) (p1 : ∀ p : Nat, fdR R x p → Post (.inl (some (.int (i3 (R (29 + 5 * p + 2)))))) (wI B (st I m 0 0))) : Sp (d + 4) k_X9_firstOf [.ref m, .int (i3 (x))] (wI B I) Post := by
  refine Sp_intro md_X9_firstOf rfl rfl (fun G hG => ?_)
  have hm0 := hm
  obtain ⟨n1, n2, n3, n4, n5, n6, n7, n8, n9, n10, n11⟩ := hm
  have hR0 : ∀ j, j < 79 → I (m + 1) j = R j := hR.at
  have hRs : ∀ z : Int, ∀ j, j < 79 → st I m 0 z (m + 1) j = R j := fun z j hj => by rw [st_row _ _ (by omega)]; exact hR0 j hj
  have hW0 := hW
  obtain ⟨w0, w1, w2, w3, w4, wd, wc⟩ := hW
  have hdb : ∀ k, k < 6 → (0 ≤ R (5 + 4 * k + 2) ∧ R (5 + 4 * k + 2) ≤ 40) ∧ (0 ≤ R (5 + 4 * k + 3) ∧ R (5 + 4 * k + 3) ≤ 40) ∧ R (5 + 4 * k + 2) ≤ R (5 + 4 * k + 3) := fun k hk => by have u := (wd k hk).1; omega
  show G 0 [some (.ref m), some (.int (i3 (x)))] [] (wI B I)
  refine q_aload_n hG rfl rfl ?_
  refine q_iload_n hG rfl rfl ?_
  refine q_iconst (v := 2) hG rfl rfl ?_
  refine q_callV6 hG rfl rfl rfl (by assumption) (s_R_ofRule (w := 2) hm0 hR hW0 hq hv (by decide) (fun hf => ?_) (fun p hf => ?_))
  · refine q_iret0 hG rfl rfl ?_
    first
    | exact p1 p hf
    | exact pE hf
  · refine q_iret0 hG rfl rfl ?_
    first
    | exact p1 p hf
    | exact pE hf
theorem s_R_secondOf {d : Nat} {B : HP} {I : IM} {Post : Out → HP → Prop} {m : Nat} (hm : oM B m) {R : RW} {q : Int} (hR : RepM I m 0 R) (hW : WfR q R) (hq : q ≤ 2000000000) {x : Int} (hv : r32 x) (pE : noR R x → Post (.inl (some (.int (i3 0)))) (wI B (st I m 0 1))) (p1 : ∀ p : Nat, fdR R x p → Post (.inl (some (.int (i3 (R (29 + 5 * p + 3)))))) (wI B (st I m 0 0))) : Sp (d + 4) k_X9_secondOf [.ref m, .int (i3 (x))] (wI B I) Post := by
  refine Sp_intro md_X9_secondOf rfl rfl (fun G hG => ?_)
  have hm0 := hm
  obtain ⟨n1, n2, n3, n4, n5, n6, n7, n8, n9, n10, n11⟩ := hm
  have hR0 : ∀ j, j < 79 → I (m + 1) j = R j := hR.at
  have hRs : ∀ z : Int, ∀ j, j < 79 → st I m 0 z (m + 1) j = R j := fun z j hj => by rw [st_row _ _ (by omega)]; exact hR0 j hj
  have hW0 := hW
  obtain ⟨w0, w1, w2, w3, w4, wd, wc⟩ := hW
  have hdb : ∀ k, k < 6 → (0 ≤ R (5 + 4 * k + 2) ∧ R (5 + 4 * k + 2) ≤ 40) ∧ (0 ≤ R (5 + 4 * k + 3) ∧ R (5 + 4 * k + 3) ≤ 40) ∧ R (5 + 4 * k + 2) ≤ R (5 + 4 * k + 3) := fun k hk => by have u := (wd k hk).1; omega
  show G 0 [some (.ref m), some (.int (i3 (x)))] [] (wI B I)
  refine q_aload_n hG rfl rfl ?_
  refine q_iload_n hG rfl rfl ?_
  refine q_iconst (v := 3) hG rfl rfl ?_
  refine q_callV6 hG rfl rfl rfl (by assumption) (s_R_ofRule (w := 3) hm0 hR hW0 hq hv (by decide) (fun hf => ?_) (fun p hf => ?_))
  · refine q_iret0 hG rfl rfl ?_
    first
    | exact p1 p hf
    | exact pE hf
  · refine q_iret0 hG rfl rfl ?_
    first
    | exact p1 p hf
    | exact pE hf
theorem s_R_gapOf {d : Nat} {B : HP} {I : IM} {Post : Out → HP → Prop} {m : Nat} (hm : oM B m) {R : RW} {q : Int} (hR : RepM I m 0 R) (hW : WfR q R) (hq : q ≤ 2000000000) {x : Int} (hv : r32 x) (pE : noR R x → Post (.inl (some (.int (i3 0)))) (wI B (st I m 0 1))) (p1 : ∀ p : Nat, fdR R x p → Post (.inl (some (.int (i3 (R (29 + 5 * p + 4)))))) (wI B (st I m 0 0))) : Sp (d + 4) k_X9_gapOf [.ref m, .int (i3 (x))] (wI B I) Post := by
  refine Sp_intro md_X9_gapOf rfl rfl (fun G hG => ?_)
  have hm0 := hm
  obtain ⟨n1, n2, n3, n4, n5, n6, n7, n8, n9, n10, n11⟩ := hm
  have hR0 : ∀ j, j < 79 → I (m + 1) j = R j := hR.at
  have hRs : ∀ z : Int, ∀ j, j < 79 → st I m 0 z (m + 1) j = R j := fun z j hj => by rw [st_row _ _ (by omega)]; exact hR0 j hj
  have hW0 := hW
  obtain ⟨w0, w1, w2, w3, w4, wd, wc⟩ := hW
  have hdb : ∀ k, k < 6 → (0 ≤ R (5 + 4 * k + 2) ∧ R (5 + 4 * k + 2) ≤ 40) ∧ (0 ≤ R (5 + 4 * k + 3) ∧ R (5 + 4 * k + 3) ≤ 40) ∧ R (5 + 4 * k + 2) ≤ R (5 + 4 * k + 3) := fun k hk => by have u := (wd k hk).1; omega
  show G 0 [some (.ref m), some (.int (i3 (x)))] [] (wI B I)
  refine q_aload_n hG rfl rfl ?_
  refine q_iload_n hG rfl rfl ?_
  refine q_iconst (v := 4) hG rfl rfl ?_
  refine q_callV6 hG rfl rfl rfl (by assumption) (s_R_ofRule (w := 4) hm0 hR hW0 hq hv (by decide) (fun hf => ?_) (fun p hf => ?_))
  · refine q_iret0 hG rfl rfl ?_
    first
    | exact p1 p hf
    | exact pE hf
  · refine q_iret0 hG rfl rfl ?_
    first
    | exact p1 p hf
    | exact pE hf
theorem s_R_kindOf {d : Nat} {B : HP} {I : IM} {Post : Out → HP → Prop} {m : Nat} (hm : oM B m) {R : RW} {q : Int} (hR : RepM I m 0 R) (hW : WfR q R) (hq : q ≤ 2000000000) {x : Int} (hv : r32 x) (pE : noR R x → Post (.inl (some (.int (i3 0)))) (wI B (st I m 0 1))) (p1 : ∀ p : Nat, fdR R x p → Post (.inl (some (.int (i3 (R (29 + 5 * p + 1)))))) (wI B (st I m 0 0))) : Sp (d + 4) k_X9_kindOf [.ref m, .int (i3 (x))] (wI B I) Post := by
  refine Sp_intro md_X9_kindOf rfl rfl (fun G hG => ?_)
  have hm0 := hm
  obtain ⟨n1, n2, n3, n4, n5, n6, n7, n8, n9, n10, n11⟩ := hm
  have hR0 : ∀ j, j < 79 → I (m + 1) j = R j := hR.at
  have hRs : ∀ z : Int, ∀ j, j < 79 → st I m 0 z (m + 1) j = R j := fun z j hj => by rw [st_row _ _ (by omega)]; exact hR0 j hj
  have hW0 := hW
  obtain ⟨w0, w1, w2, w3, w4, wd, wc⟩ := hW
  have hdb : ∀ k, k < 6 → (0 ≤ R (5 + 4 * k + 2) ∧ R (5 + 4 * k + 2) ≤ 40) ∧ (0 ≤ R (5 + 4 * k + 3) ∧ R (5 + 4 * k + 3) ≤ 40) ∧ R (5 + 4 * k + 2) ≤ R (5 + 4 * k + 3) := fun k hk => by have u := (wd k hk).1; omega
  show G 0 [some (.ref m), some (.int (i3 (x)))] [] (wI B I)
  refine q_aload_n hG rfl rfl ?_
  refine q_iload_n hG rfl rfl ?_
  refine q_iconst (v := 1) hG rfl rfl ?_
  refine q_callV6 hG rfl rfl rfl (by assumption) (s_R_ofRule (w := 1) hm0 hR hW0 hq hv (by decide) (fun hf => ?_) (fun p hf => ?_))
  · refine q_i2c hG rfl ?_
    refine q_iret3 hG rfl rfl (by omega) ?_
    first
    | have e : R (29 + 5 * p + 1) % 65536 = R (29 + 5 * p + 1) := by omega
      rw [e]
      exact p1 p hf
    | exact pE hf
  · have hpl := hf.1
    have hk := (wc p (by omega)).2.1
    refine q_i2c hG rfl ?_
    refine q_iret3 hG rfl rfl (by omega) ?_
    first
    | have e : R (29 + 5 * p + 1) % 65536 = R (29 + 5 * p + 1) := by omega
      rw [e]
      exact p1 p hf
    | exact pE hf
