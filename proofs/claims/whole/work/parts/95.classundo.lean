/-! the class: undo, snapshot -/
theorem s_P_undo {d : Nat} {B : HP} {I : IM} {Post : Out → HP → Prop} (hX : LX B) {R : RW} {c : Int} {h : Nat → RW} {sv : Int} {SR : RW} {eo why det cau q : Int} (hC : CSt I R c h sv SR eo why det cau) (hW : WfR q R) (hWh : 0 < c → (h 0) 1 ≤ 10) (pE : c = 0 → Post (.inr 4) (wI (junk B 6) I)) (p1 : 0 < c → ∀ J : IM, CSt J (h 0) (c - 1) (fun j => h (j + 1)) sv SR eo why det cau → (∀ a, 158 ≤ a → J a = I a) → Post (.inl (some (.int (i3 (c - 1))))) (wI B J)) : Sp (d + 4) k_X8_undo [.ref 0] (wI B I) Post := by
  refine Sp_intro md_X8_undo rfl rfl (fun G hG => ?_)
  have hX0 := hX
  obtain ⟨x0, x1, x2, x3, x4, x5, x6, x7, x8, x9, x10, x11, x12, x13, x14, x15, x16, x17, x18, x19, x20, x21, x22, x23, x24, x25, x26, x27, x28, x29, x30, x31, x32, x33, x34, x35, x36, x37, x38, x39, x40, x41, x42, x43, x44⟩ := hX
  have hC0 := hC
  obtain ⟨hR, ⟨nx, hH⟩, e3, e4, e5, e6, e7, e8, e9⟩ := hC
  have hn1 : R 1 ≤ 10 := hW.2.1.2
  have kD := x10.1
  have kS := x11.1
  have hcb := hH.2.1
  show G 0 [some (.ref 0)] [] (wI B I)
  refine q_aload_n hG rfl rfl ?_
  refine q_getR hG rfl (by assumption) (by assumption) ?_
  refine q_getI0v (v := c) hG rfl (by assumption) (hH.1) ?_
  refine q_if_ne hG rfl ⟨by omega, by omega⟩ (fun hc7 => ?_) (fun hc7 => ?_)
  · refine q_aload_n hG rfl rfl ?_
    refine q_getR hG rfl (by assumption) (by assumption) ?_
    refine q_aload_n hG rfl rfl ?_
    refine q_getR hG rfl (by assumption) (by assumption) ?_
    refine q_callV6 hG rfl rfl rfl (by assumption) (s_H_backL hX0 hH (by omega) (hWh (by omega)) (fun J j1 j2 j3 => ?_))
    refine q_aload_n hG rfl rfl ?_
    refine q_getR hG rfl (by assumption) (by assumption) ?_
    refine q_getI0v (v := c - 1) hG rfl (by assumption) (j2.1) ?_
    refine q_iret0 hG rfl rfl ?_
    refine p1 (by omega) J ⟨j1, ⟨_, j2⟩, ?_, fun z => (e4 z).row (fun a u v => j3 a (by omega)), ?_, ?_, ?_, ?_, fun k hk => ?_⟩ (fun a ha => j3 a (by omega))
    · rw [j3 0 (by omega)]; exact e3
    · rw [j3 0 (by omega)]; exact e5
    · rw [j3 0 (by omega)]; exact e6
    · rw [j3 0 (by omega)]; exact e7
    · rw [j3 0 (by omega)]; exact e8
    · rw [j3 152 (by omega), j3 157 (by omega)]; exact e9 k hk
  · refine q_throw hG rfl ?_
    exact pE (by omega)
theorem s_P_save {d : Nat} {B : HP} {I : IM} {Post : Out → HP → Prop} (hX : LX B) {R : RW} {c : Int} {h : Nat → RW} {sv : Int} {SR : RW} {eo why det cau q : Int} (hC : CSt I R c h sv SR eo why det cau) (hW : WfR q R)  (p1 : ∀ J : IM, CSt J R c h 1 R eo why det cau → (∀ a, 158 ≤ a → J a = I a) → Post (.inl (some (.int (i3 (R 0))))) (wI B J)) : Sp (d + 3) k_X8_saveSnapshot [.ref 0] (wI B I) Post := by
  refine Sp_intro md_X8_saveSnapshot rfl rfl (fun G hG => ?_)
  have hX0 := hX
  obtain ⟨x0, x1, x2, x3, x4, x5, x6, x7, x8, x9, x10, x11, x12, x13, x14, x15, x16, x17, x18, x19, x20, x21, x22, x23, x24, x25, x26, x27, x28, x29, x30, x31, x32, x33, x34, x35, x36, x37, x38, x39, x40, x41, x42, x43, x44⟩ := hX
  have hC0 := hC
  obtain ⟨hR, ⟨nx, hH⟩, e3, e4, e5, e6, e7, e8, e9⟩ := hC
  have hn1 : R 1 ≤ 10 := hW.2.1.2
  have kD := x10.1
  have kS := x11.1
  show G 0 [some (.ref 0)] [] (wI B I)
  refine q_aload_n hG rfl rfl ?_
  refine q_getR hG rfl (by assumption) (by assumption) ?_
  refine q_aload_n hG rfl rfl ?_
  refine q_getR hG rfl (by assumption) (by assumption) ?_
  refine q_callV6 hG rfl rfl rfl (by assumption) (s_D_copy (b := 133) (o := 1) hX0.2.2.2.2.2.2.2.2.2.2.2.1 hX0.2.2.2.2.2.2.2.2.2.2.1 (by omega) hR.2.2.2.2.2.2.2 (fun J1 j1 j2 => ?_))
  refine q_aload_n hG rfl rfl ?_
  refine q_iconst (v := 1) hG rfl rfl ?_
  refine q_putI5 hG rfl (by assumption) (by omega) ?_
  refine q_aload_n hG rfl rfl ?_
  refine q_getR hG rfl (by assumption) (by assumption) ?_
  refine q_getI0v (v := R 0) hG rfl (by assumption) (by rw [st_row _ _ (by decide), j2 1 (by omega)]; exact hR.1) ?_
  refine q_iret0 hG rfl rfl ?_
  have ho : ∀ a, a ≠ 0 → (a < 133 ∨ 145 < a) → st J1 0 3 1 a = I a := fun a h0 ha => by rw [st_row _ _ h0, j2 a (by omega)]
  have h0 : ∀ k, k ≠ 3 → st J1 0 3 1 0 k = I 0 k := fun k hk => by rw [st_ne _ _ (by omega), j2 0 (by omega)]
  refine p1 _ ⟨hR.row (fun a u v => ho a (by omega) (by omega)), ⟨nx, hH.row (fun a u v => ho a (by omega) (by omega))⟩, ⟨st_same _ _ _ _, Or.inr rfl⟩, fun _ => (hR.copy hn1 j1).row (fun a u v => by rw [st_row _ _ (by omega)]), ?_, ?_, ?_, ?_, fun k hk => ?_⟩ (fun a ha => ho a (by omega) (by omega))
  · rw [h0 _ (by decide)]; exact e5
  · rw [h0 _ (by decide)]; exact e6
  · rw [h0 _ (by decide)]; exact e7
  · rw [h0 _ (by decide)]; exact e8
  · rw [ho 152 (by omega) (by omega), ho 157 (by omega) (by omega)]; exact e9 k hk
theorem s_P_restore {d : Nat} {B : HP} {I : IM} {Post : Out → HP → Prop} (hX : LX B) {R : RW} {c : Int} {h : Nat → RW} {sv : Int} {SR : RW} {eo why det cau q : Int} (hC : CSt I R c h sv SR eo why det cau) (hW : WfR q R) (hWs : sv = 1 → SR 1 ≤ 10) (pE : sv = 0 → Post (.inr 4) (wI (junk B 6) I)) (p1 : sv = 1 → ∀ J : IM, CSt J SR 0 h sv SR eo why det cau → (∀ a, 158 ≤ a → J a = I a) → Post (.inl (some (.int (i3 (SR 0))))) (wI B J)) : Sp (d + 3) k_X8_restoreSnapshot [.ref 0] (wI B I) Post := by
  refine Sp_intro md_X8_restoreSnapshot rfl rfl (fun G hG => ?_)
  have hX0 := hX
  obtain ⟨x0, x1, x2, x3, x4, x5, x6, x7, x8, x9, x10, x11, x12, x13, x14, x15, x16, x17, x18, x19, x20, x21, x22, x23, x24, x25, x26, x27, x28, x29, x30, x31, x32, x33, x34, x35, x36, x37, x38, x39, x40, x41, x42, x43, x44⟩ := hX
  have hC0 := hC
  obtain ⟨hR, ⟨nx, hH⟩, e3, e4, e5, e6, e7, e8, e9⟩ := hC
  have hn1 : R 1 ≤ 10 := hW.2.1.2
  have kD := x10.1
  have kS := x11.1
  obtain ⟨e3a, e3b⟩ := e3
  show G 0 [some (.ref 0)] [] (wI B I)
  refine q_aload_n hG rfl rfl ?_
  refine q_getI5v (v := sv) hG rfl (by assumption) (e3a) ?_
  refine q_if_ne hG rfl ⟨by omega, by omega⟩ (fun hc4 => ?_) (fun hc4 => ?_)
  · refine q_aload_n hG rfl rfl ?_
    refine q_getR hG rfl (by assumption) (by assumption) ?_
    refine q_aload_n hG rfl rfl ?_
    refine q_getR hG rfl (by assumption) (by assumption) ?_
    refine q_callV6 hG rfl rfl rfl (by assumption) (s_D_copy (b := 1) (o := 133) hX0.2.2.2.2.2.2.2.2.2.2.1 hX0.2.2.2.2.2.2.2.2.2.2.2.1 (by omega) (e4 (by omega)).2.2.2.2.2.2.2 (fun J1 j1 j2 => ?_))
    refine q_aload_n hG rfl rfl ?_
    refine q_getR hG rfl (by assumption) (by assumption) ?_
    refine q_iconst (v := 0) hG rfl rfl ?_
    refine q_putI0 hG rfl (by assumption) ?_
    refine q_aload_n hG rfl rfl ?_
    refine q_getR hG rfl (by assumption) (by assumption) ?_
    refine q_getI0v (v := SR 0) hG rfl (by assumption) (by rw [st_row _ _ (by decide)]; exact ((e4 (by omega)).copy (hWs (by omega)) j1).1) ?_
    refine q_iret0 hG rfl rfl ?_
    have ho : ∀ a, a ≠ 14 → (a < 1 ∨ 13 < a) → st J1 14 0 0 a = I a := fun a h0 ha => by rw [st_row _ _ h0, j2 a (by omega)]
    obtain ⟨hh1, hh2, hh3, hh4, hh5⟩ := hH
    refine p1 (by omega) _ ⟨((e4 (by omega)).copy (hWs (by omega)) j1).row (fun a u v => by rw [st_row _ _ (by omega)]), ⟨nx, st_same _ _ _ _, by omega, by rw [st_ne _ _ (by omega), j2 14 (by omega)]; exact hh3, hh4, fun j hj => by omega⟩, ?_, fun z => (e4 z).row (fun a u v => ho a (by omega) (by omega)), ?_, ?_, ?_, ?_, fun k hk => ?_⟩ (fun a ha => ho a (by omega) (by omega))
    · rw [ho 0 (by omega) (by omega)]; exact ⟨e3a, e3b⟩
    · rw [ho 0 (by omega) (by omega)]; exact e5
    · rw [ho 0 (by omega) (by omega)]; exact e6
    · rw [ho 0 (by omega) (by omega)]; exact e7
    · rw [ho 0 (by omega) (by omega)]; exact e8
    · rw [ho 152 (by omega) (by omega), ho 157 (by omega) (by omega)]; exact e9 k hk
  · refine q_throw hG rfl ?_
    exact pE (by omega)
