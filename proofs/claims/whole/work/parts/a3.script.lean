/-! the class reads the script -/
def kFm (B : HP) (I : IM) : Prop := kS B I 1 fDrop ∧ kS B I 2 fDoor ∧ kS B I 3 fFrame ∧ kS B I 4 fNarrow ∧ kS B I 5 fPass ∧ kS B I 6 fSettle ∧ kS B I 7 fReset ∧ kS B I 8 fBind
theorem kFm.row {B : HP} {I J : IM} (h : kFm B I) (hr : ∀ a, BIG ≤ a → J a = I a) : kFm B J := by
  obtain ⟨a, b, c, d, e, f, g, k⟩ := h
  exact ⟨a.row hr, b.row hr, c.row hr, d.row hr, e.row hr, f.row hr, g.row hr, k.row hr⟩
theorem cm_of {l : List Int} {p : Nat} {q : Int × List Int} (h : vb l p = q) : cm l p = fm l p q.2 := by unfold cm; rw [h]
theorem cm_end {l : List Int} {p : Nat} (h : ¬ p < l.length) : cm l p = (false, p, [], 0) := by
  have e := sg_out h
  have v : vb l p = (4, fBind) := by
    unfold vb
    rw [e]
    rfl
  rw [cm_of v]
  show (fBind.tail).foldl (stp l) (stp l (true, p, [], 0) 68) = _
  rw [stp_D0 (by rw [e]; decide)]
  exact fold_f _ rfl
/-- a command is noted -/
def cmS (J : IM) (l : List Int) (j : Nat) : Prop := J 163 j = (vb l (cp l j)).1 ∧ nsS J j (cm l (cp l j)).2.2.1 ∧ ((cm l (cp l j)).2.2.2 ≠ 0 → J 164 j = (cm l (cp l j)).2.2.2)
theorem cmS.mv {I J : IM} {l : List Int} {i j : Nat} (h : cmS I l j) (hf : sfrC I J i) (hj : j < i) (hi : i < 12) : cmS J l j := by
  obtain ⟨a, b, c⟩ := h
  exact ⟨by rw [hf.2.2.1 j (by omega)]; exact a, fun z hz => by rw [hf.1 _ (by omega) (by omega) (by omega) (by omega)]; exact b z hz, fun z => by rw [hf.2.2.2 j (by omega)]; exact c z⟩
/-- the script's rows alone change -/
def sfA (I J : IM) : Prop := (∀ a, a ≠ 160 → a ≠ 163 → a ≠ 164 → ¬ (166 ≤ a ∧ a < 178) → J a = I a) ∧ ∀ k, k ≠ 1 → k ≠ 2 → J 160 k = I 160 k
theorem sfA.trans {I J K : IM} (h : sfA I J) (h2 : sfA J K) : sfA I K := ⟨fun a p q r s => (h2.1 a p q r s).trans (h.1 a p q r s), fun k p q => (h2.2 k p q).trans (h.2 k p q)⟩
theorem sfrC.A {I J : IM} {i : Nat} (h : sfrC I J i) (hi : i < 12) : sfA I J := ⟨fun a p q r s => h.1 a p q r (by omega), fun k p _ => h.2.1 k p⟩
theorem sfp.A {I J : IM} (h : sfp I J) : sfA I J := ⟨fun a p _ _ _ => h.1 a p, fun k p _ => h.2 k p⟩
/-- the text that is to be read -/
def rdT (B : HP) (I : IM) (v n : Nat) (l : List Int) : Prop := oS B 161 v n ∧ sbT I 161 v l ∧ l.length ≤ n ∧ (v = 162 ∨ 186 ≤ v) ∧ l.length ≤ 60

theorem s_T_command {d : Nat} {B : HP} {I : IM} {Post : Out → HP → Prop} (hX : LX B) {v n : Nat} {l : List Int} {p : Nat} (hs : rdS B I v n l p) (hkf : kFm B I) {i : Nat} (hi : i < 12) (p1 : (cm l p).1 = true → ∀ J : IM, rdS B J v n l (cm l p).2.1 → sfrC I J i → J 163 i = (vb l p).1 → nsS J i (cm l p).2.2.1 → ((cm l p).2.2.2 ≠ 0 → J 164 i = (cm l p).2.2.2) → Post (.inl (some (.int (i3 1)))) (wI B J)) (p0 : (cm l p).1 = false → ∀ J : IM, rdS B J v n l (cm l p).2.1 → sfrC I J i → Post (.inl (some (.int (i3 0)))) (wI B J)) : Sp (d + 9) k_X7_readCommand [.ref 160, .int (i3 ((i : Int)))] (wI B I) Post := by
  refine Sp_intro md_X7_readCommand rfl rfl (fun G hG => ?_)
  have hX0 := hX
  obtain ⟨x0, x1, x2, x3, x4, x5, x6, x7, x8, x9, x10, x11, x12, x13, x14, x15, x16, x17, x18, x19, x20, x21, x22, x23, x24, x25, x26, x27, x28, x29, x30, x31, x32, x33, x34, x35, x36, x37, x38, x39, x40, x41, x42, x43, x44⟩ := hX
  have h60 : hK B 160 = (17, 0) := x35
  have hrt : hR B 160 0 = some 161 := x36
  have hs0 := hs
  obtain ⟨s1, s2, s3, s4, s5, s6, s7⟩ := hs
  have hch := s2.2.2.2
  show G 0 [some (.ref 160), some (.int (i3 ((i : Int)))), none] [] (wI B I)
  refine q_aload_n hG rfl rfl ?_
  refine q_aload_n hG rfl rfl ?_
  refine q_getI0v (v := (p : Int)) hG rfl (by assumption) (s6) ?_
  refine q_callV6 hG rfl rfl rfl (by assumption) (s_T_signAt h60 hrt hs0 (j := p) (by omega) ?_)
  have hsc := sc_sg hch p
  refine q_tsw hG rfl ⟨by omega, by omega⟩ rfl ?_
  refine ⟨fun hs8 => ?_, fun hs8_100 => ?_⟩
  · refine q_aload_n hG rfl rfl ?_
    refine q_aload_n hG rfl rfl ?_
    refine q_getI0v (v := (p : Int)) hG rfl (by assumption) (s6) ?_
    refine q_iconst (v := 1) hG rfl rfl ?_
    refine q_iadd hG rfl ?_
    rw [show (p : Int) + 1 = ((p + 1 : Nat) : Int) by omega]
    refine q_callV6 hG rfl rfl rfl (by assumption) (s_T_signAt h60 hrt hs0 (j := p + 1) (by omega) ?_)
    have hsc2 := sc_sg hch (p + 1)
    refine q_bipush (v := 114) hG rfl rfl ?_
    refine q_icmp_ne hG rfl ⟨by omega, by omega⟩ ⟨by omega, by omega⟩ (fun hc100 => ?_) (fun hc100 => ?_)
    · refine q_iconst (v := 0) hG rfl rfl ?_
      refine q_istore_n hG rfl rfl ?_
      refine q_iload_n hG rfl rfl ?_
      refine q_if_eq hG rfl ⟨by omega, by omega⟩ (fun _ => ?_) (fun q => absurd (by decide) q)
      refine q_aload_n hG rfl rfl ?_
      refine q_iload_n hG rfl rfl ?_
      refine q_iconst (v := 1) hG rfl rfl ?_
      refine q_ldcR hG rfl ?_
      refine q_callV6 hG rfl rfl rfl (by assumption) (s_T_form hX0 hs0 hi (vbn := 1) ⟨by decide, by decide⟩ (k := 2) (hkf.2.1) (by decide) (by decide) (fun e1 J r f v3 n3 k3 => ?_) (fun e1 J r f => ?_))
      · have eV : vb l p = (1, fDoor) := by unfold vb; rw [if_pos (by omega), if_neg (by omega)]
        have eC := cm_of eV
        refine q_iret5 hG rfl rfl (by decide) ?_
        rw [eC, eV] at p1
        exact p1 e1 J r f v3 n3 k3
      · have eV : vb l p = (1, fDoor) := by unfold vb; rw [if_pos (by omega), if_neg (by omega)]
        have eC := cm_of eV
        refine q_iret5 hG rfl rfl (by decide) ?_
        rw [eC] at p0
        exact p0 e1 J r f
    · refine q_iconst (v := 1) hG rfl rfl ?_
      refine q_goto hG rfl ?_
      refine q_istore_n hG rfl rfl ?_
      refine q_iload_n hG rfl rfl ?_
      refine q_if_eq hG rfl ⟨by omega, by omega⟩ (fun q => absurd q (by decide)) (fun _ => ?_)
      refine q_aload_n hG rfl rfl ?_
      refine q_iload_n hG rfl rfl ?_
      refine q_iconst (v := 5) hG rfl rfl ?_
      refine q_ldcR hG rfl ?_
      refine q_callV6 hG rfl rfl rfl (by assumption) (s_T_form hX0 hs0 hi (vbn := 5) ⟨by decide, by decide⟩ (k := 1) (hkf.1) (by decide) (by decide) (fun e1 J r f v3 n3 k3 => ?_) (fun e1 J r f => ?_))
      · have eV : vb l p = (5, fDrop) := by unfold vb; rw [if_pos (by omega), if_pos (by omega)]
        have eC := cm_of eV
        refine q_goto hG rfl ?_
        refine q_iret5 hG rfl rfl (by decide) ?_
        rw [eC, eV] at p1
        exact p1 e1 J r f v3 n3 k3
      · have eV : vb l p = (5, fDrop) := by unfold vb; rw [if_pos (by omega), if_pos (by omega)]
        have eC := cm_of eV
        refine q_goto hG rfl ?_
        refine q_iret5 hG rfl rfl (by decide) ?_
        rw [eC] at p0
        exact p0 e1 J r f
  refine ⟨fun hs8 => ?_, fun hs8_101 => ?_⟩
  · refine q_aload_n hG rfl rfl ?_
    refine q_iload_n hG rfl rfl ?_
    refine q_iconst (v := 4) hG rfl rfl ?_
    refine q_ldcR hG rfl ?_
    refine q_callV6 hG rfl rfl rfl (by assumption) (s_T_form hX0 hs0 hi (vbn := 4) ⟨by decide, by decide⟩ (k := 8) (hkf.2.2.2.2.2.2.2) (by decide) (by decide) (fun e1 J r f v3 n3 k3 => ?_) (fun e1 J r f => ?_))
    · have eV : vb l p = (4, fBind) := by unfold vb; rw [if_neg (by omega), if_neg (by omega), if_neg (by omega), if_neg (by omega), if_neg (by omega), if_neg (by omega)]
      have eC := cm_of eV
      refine q_iret5 hG rfl rfl (by decide) ?_
      rw [eC, eV] at p1
      exact p1 e1 J r f v3 n3 k3
    · have eV : vb l p = (4, fBind) := by unfold vb; rw [if_neg (by omega), if_neg (by omega), if_neg (by omega), if_neg (by omega), if_neg (by omega), if_neg (by omega)]
      have eC := cm_of eV
      refine q_iret5 hG rfl rfl (by decide) ?_
      rw [eC] at p0
      exact p0 e1 J r f
  refine ⟨fun hs8 => ?_, fun hs8_102 => ?_⟩
  · refine q_aload_n hG rfl rfl ?_
    refine q_iload_n hG rfl rfl ?_
    refine q_iconst (v := 2) hG rfl rfl ?_
    refine q_ldcR hG rfl ?_
    refine q_callV6 hG rfl rfl rfl (by assumption) (s_T_form hX0 hs0 hi (vbn := 2) ⟨by decide, by decide⟩ (k := 3) (hkf.2.2.1) (by decide) (by decide) (fun e1 J r f v3 n3 k3 => ?_) (fun e1 J r f => ?_))
    · have eV : vb l p = (2, fFrame) := by unfold vb; rw [show sg l p = 102 by omega]; rfl
      have eC := cm_of eV
      refine q_iret5 hG rfl rfl (by decide) ?_
      rw [eC, eV] at p1
      exact p1 e1 J r f v3 n3 k3
    · have eV : vb l p = (2, fFrame) := by unfold vb; rw [show sg l p = 102 by omega]; rfl
      have eC := cm_of eV
      refine q_iret5 hG rfl rfl (by decide) ?_
      rw [eC] at p0
      exact p0 e1 J r f
  refine ⟨fun hs8 => ?_, fun hs8_103 => ?_⟩
  · refine q_aload_n hG rfl rfl ?_
    refine q_iload_n hG rfl rfl ?_
    refine q_iconst (v := 4) hG rfl rfl ?_
    refine q_ldcR hG rfl ?_
    refine q_callV6 hG rfl rfl rfl (by assumption) (s_T_form hX0 hs0 hi (vbn := 4) ⟨by decide, by decide⟩ (k := 8) (hkf.2.2.2.2.2.2.2) (by decide) (by decide) (fun e1 J r f v3 n3 k3 => ?_) (fun e1 J r f => ?_))
    · have eV : vb l p = (4, fBind) := by unfold vb; rw [if_neg (by omega), if_neg (by omega), if_neg (by omega), if_neg (by omega), if_neg (by omega), if_neg (by omega)]
      have eC := cm_of eV
      refine q_iret5 hG rfl rfl (by decide) ?_
      rw [eC, eV] at p1
      exact p1 e1 J r f v3 n3 k3
    · have eV : vb l p = (4, fBind) := by unfold vb; rw [if_neg (by omega), if_neg (by omega), if_neg (by omega), if_neg (by omega), if_neg (by omega), if_neg (by omega)]
      have eC := cm_of eV
      refine q_iret5 hG rfl rfl (by decide) ?_
      rw [eC] at p0
      exact p0 e1 J r f
  refine ⟨fun hs8 => ?_, fun hs8_104 => ?_⟩
  · refine q_aload_n hG rfl rfl ?_
    refine q_iload_n hG rfl rfl ?_
    refine q_iconst (v := 4) hG rfl rfl ?_
    refine q_ldcR hG rfl ?_
    refine q_callV6 hG rfl rfl rfl (by assumption) (s_T_form hX0 hs0 hi (vbn := 4) ⟨by decide, by decide⟩ (k := 8) (hkf.2.2.2.2.2.2.2) (by decide) (by decide) (fun e1 J r f v3 n3 k3 => ?_) (fun e1 J r f => ?_))
    · have eV : vb l p = (4, fBind) := by unfold vb; rw [if_neg (by omega), if_neg (by omega), if_neg (by omega), if_neg (by omega), if_neg (by omega), if_neg (by omega)]
      have eC := cm_of eV
      refine q_iret5 hG rfl rfl (by decide) ?_
      rw [eC, eV] at p1
      exact p1 e1 J r f v3 n3 k3
    · have eV : vb l p = (4, fBind) := by unfold vb; rw [if_neg (by omega), if_neg (by omega), if_neg (by omega), if_neg (by omega), if_neg (by omega), if_neg (by omega)]
      have eC := cm_of eV
      refine q_iret5 hG rfl rfl (by decide) ?_
      rw [eC] at p0
      exact p0 e1 J r f
  refine ⟨fun hs8 => ?_, fun hs8_105 => ?_⟩
  · refine q_aload_n hG rfl rfl ?_
    refine q_iload_n hG rfl rfl ?_
    refine q_iconst (v := 4) hG rfl rfl ?_
    refine q_ldcR hG rfl ?_
    refine q_callV6 hG rfl rfl rfl (by assumption) (s_T_form hX0 hs0 hi (vbn := 4) ⟨by decide, by decide⟩ (k := 8) (hkf.2.2.2.2.2.2.2) (by decide) (by decide) (fun e1 J r f v3 n3 k3 => ?_) (fun e1 J r f => ?_))
    · have eV : vb l p = (4, fBind) := by unfold vb; rw [if_neg (by omega), if_neg (by omega), if_neg (by omega), if_neg (by omega), if_neg (by omega), if_neg (by omega)]
      have eC := cm_of eV
      refine q_iret5 hG rfl rfl (by decide) ?_
      rw [eC, eV] at p1
      exact p1 e1 J r f v3 n3 k3
    · have eV : vb l p = (4, fBind) := by unfold vb; rw [if_neg (by omega), if_neg (by omega), if_neg (by omega), if_neg (by omega), if_neg (by omega), if_neg (by omega)]
      have eC := cm_of eV
      refine q_iret5 hG rfl rfl (by decide) ?_
      rw [eC] at p0
      exact p0 e1 J r f
  refine ⟨fun hs8 => ?_, fun hs8_106 => ?_⟩
  · refine q_aload_n hG rfl rfl ?_
    refine q_iload_n hG rfl rfl ?_
    refine q_iconst (v := 4) hG rfl rfl ?_
    refine q_ldcR hG rfl ?_
    refine q_callV6 hG rfl rfl rfl (by assumption) (s_T_form hX0 hs0 hi (vbn := 4) ⟨by decide, by decide⟩ (k := 8) (hkf.2.2.2.2.2.2.2) (by decide) (by decide) (fun e1 J r f v3 n3 k3 => ?_) (fun e1 J r f => ?_))
    · have eV : vb l p = (4, fBind) := by unfold vb; rw [if_neg (by omega), if_neg (by omega), if_neg (by omega), if_neg (by omega), if_neg (by omega), if_neg (by omega)]
      have eC := cm_of eV
      refine q_iret5 hG rfl rfl (by decide) ?_
      rw [eC, eV] at p1
      exact p1 e1 J r f v3 n3 k3
    · have eV : vb l p = (4, fBind) := by unfold vb; rw [if_neg (by omega), if_neg (by omega), if_neg (by omega), if_neg (by omega), if_neg (by omega), if_neg (by omega)]
      have eC := cm_of eV
      refine q_iret5 hG rfl rfl (by decide) ?_
      rw [eC] at p0
      exact p0 e1 J r f
  refine ⟨fun hs8 => ?_, fun hs8_107 => ?_⟩
  · refine q_aload_n hG rfl rfl ?_
    refine q_iload_n hG rfl rfl ?_
    refine q_iconst (v := 4) hG rfl rfl ?_
    refine q_ldcR hG rfl ?_
    refine q_callV6 hG rfl rfl rfl (by assumption) (s_T_form hX0 hs0 hi (vbn := 4) ⟨by decide, by decide⟩ (k := 8) (hkf.2.2.2.2.2.2.2) (by decide) (by decide) (fun e1 J r f v3 n3 k3 => ?_) (fun e1 J r f => ?_))
    · have eV : vb l p = (4, fBind) := by unfold vb; rw [if_neg (by omega), if_neg (by omega), if_neg (by omega), if_neg (by omega), if_neg (by omega), if_neg (by omega)]
      have eC := cm_of eV
      refine q_iret5 hG rfl rfl (by decide) ?_
      rw [eC, eV] at p1
      exact p1 e1 J r f v3 n3 k3
    · have eV : vb l p = (4, fBind) := by unfold vb; rw [if_neg (by omega), if_neg (by omega), if_neg (by omega), if_neg (by omega), if_neg (by omega), if_neg (by omega)]
      have eC := cm_of eV
      refine q_iret5 hG rfl rfl (by decide) ?_
      rw [eC] at p0
      exact p0 e1 J r f
  refine ⟨fun hs8 => ?_, fun hs8_108 => ?_⟩
  · refine q_aload_n hG rfl rfl ?_
    refine q_iload_n hG rfl rfl ?_
    refine q_iconst (v := 4) hG rfl rfl ?_
    refine q_ldcR hG rfl ?_
    refine q_callV6 hG rfl rfl rfl (by assumption) (s_T_form hX0 hs0 hi (vbn := 4) ⟨by decide, by decide⟩ (k := 8) (hkf.2.2.2.2.2.2.2) (by decide) (by decide) (fun e1 J r f v3 n3 k3 => ?_) (fun e1 J r f => ?_))
    · have eV : vb l p = (4, fBind) := by unfold vb; rw [if_neg (by omega), if_neg (by omega), if_neg (by omega), if_neg (by omega), if_neg (by omega), if_neg (by omega)]
      have eC := cm_of eV
      refine q_iret5 hG rfl rfl (by decide) ?_
      rw [eC, eV] at p1
      exact p1 e1 J r f v3 n3 k3
    · have eV : vb l p = (4, fBind) := by unfold vb; rw [if_neg (by omega), if_neg (by omega), if_neg (by omega), if_neg (by omega), if_neg (by omega), if_neg (by omega)]
      have eC := cm_of eV
      refine q_iret5 hG rfl rfl (by decide) ?_
      rw [eC] at p0
      exact p0 e1 J r f
  refine ⟨fun hs8 => ?_, fun hs8_109 => ?_⟩
  · refine q_aload_n hG rfl rfl ?_
    refine q_iload_n hG rfl rfl ?_
    refine q_iconst (v := 4) hG rfl rfl ?_
    refine q_ldcR hG rfl ?_
    refine q_callV6 hG rfl rfl rfl (by assumption) (s_T_form hX0 hs0 hi (vbn := 4) ⟨by decide, by decide⟩ (k := 8) (hkf.2.2.2.2.2.2.2) (by decide) (by decide) (fun e1 J r f v3 n3 k3 => ?_) (fun e1 J r f => ?_))
    · have eV : vb l p = (4, fBind) := by unfold vb; rw [if_neg (by omega), if_neg (by omega), if_neg (by omega), if_neg (by omega), if_neg (by omega), if_neg (by omega)]
      have eC := cm_of eV
      refine q_iret5 hG rfl rfl (by decide) ?_
      rw [eC, eV] at p1
      exact p1 e1 J r f v3 n3 k3
    · have eV : vb l p = (4, fBind) := by unfold vb; rw [if_neg (by omega), if_neg (by omega), if_neg (by omega), if_neg (by omega), if_neg (by omega), if_neg (by omega)]
      have eC := cm_of eV
      refine q_iret5 hG rfl rfl (by decide) ?_
      rw [eC] at p0
      exact p0 e1 J r f
  refine ⟨fun hs8 => ?_, fun hs8_110 => ?_⟩
  · refine q_aload_n hG rfl rfl ?_
    refine q_iload_n hG rfl rfl ?_
    refine q_iconst (v := 3) hG rfl rfl ?_
    refine q_ldcR hG rfl ?_
    refine q_callV6 hG rfl rfl rfl (by assumption) (s_T_form hX0 hs0 hi (vbn := 3) ⟨by decide, by decide⟩ (k := 4) (hkf.2.2.2.1) (by decide) (by decide) (fun e1 J r f v3 n3 k3 => ?_) (fun e1 J r f => ?_))
    · have eV : vb l p = (3, fNarrow) := by unfold vb; rw [show sg l p = 110 by omega]; rfl
      have eC := cm_of eV
      refine q_iret5 hG rfl rfl (by decide) ?_
      rw [eC, eV] at p1
      exact p1 e1 J r f v3 n3 k3
    · have eV : vb l p = (3, fNarrow) := by unfold vb; rw [show sg l p = 110 by omega]; rfl
      have eC := cm_of eV
      refine q_iret5 hG rfl rfl (by decide) ?_
      rw [eC] at p0
      exact p0 e1 J r f
  refine ⟨fun hs8 => ?_, fun hs8_111 => ?_⟩
  · refine q_aload_n hG rfl rfl ?_
    refine q_iload_n hG rfl rfl ?_
    refine q_iconst (v := 4) hG rfl rfl ?_
    refine q_ldcR hG rfl ?_
    refine q_callV6 hG rfl rfl rfl (by assumption) (s_T_form hX0 hs0 hi (vbn := 4) ⟨by decide, by decide⟩ (k := 8) (hkf.2.2.2.2.2.2.2) (by decide) (by decide) (fun e1 J r f v3 n3 k3 => ?_) (fun e1 J r f => ?_))
    · have eV : vb l p = (4, fBind) := by unfold vb; rw [if_neg (by omega), if_neg (by omega), if_neg (by omega), if_neg (by omega), if_neg (by omega), if_neg (by omega)]
      have eC := cm_of eV
      refine q_iret5 hG rfl rfl (by decide) ?_
      rw [eC, eV] at p1
      exact p1 e1 J r f v3 n3 k3
    · have eV : vb l p = (4, fBind) := by unfold vb; rw [if_neg (by omega), if_neg (by omega), if_neg (by omega), if_neg (by omega), if_neg (by omega), if_neg (by omega)]
      have eC := cm_of eV
      refine q_iret5 hG rfl rfl (by decide) ?_
      rw [eC] at p0
      exact p0 e1 J r f
  refine ⟨fun hs8 => ?_, fun hs8_112 => ?_⟩
  · refine q_aload_n hG rfl rfl ?_
    refine q_iload_n hG rfl rfl ?_
    refine q_bipush (v := 6) hG rfl rfl ?_
    refine q_ldcR hG rfl ?_
    refine q_callV6 hG rfl rfl rfl (by assumption) (s_T_form hX0 hs0 hi (vbn := 6) ⟨by decide, by decide⟩ (k := 5) (hkf.2.2.2.2.1) (by decide) (by decide) (fun e1 J r f v3 n3 k3 => ?_) (fun e1 J r f => ?_))
    · have eV : vb l p = (6, fPass) := by unfold vb; rw [show sg l p = 112 by omega]; rfl
      have eC := cm_of eV
      refine q_iret5 hG rfl rfl (by decide) ?_
      rw [eC, eV] at p1
      exact p1 e1 J r f v3 n3 k3
    · have eV : vb l p = (6, fPass) := by unfold vb; rw [show sg l p = 112 by omega]; rfl
      have eC := cm_of eV
      refine q_iret5 hG rfl rfl (by decide) ?_
      rw [eC] at p0
      exact p0 e1 J r f
  refine ⟨fun hs8 => ?_, fun hs8_113 => ?_⟩
  · refine q_aload_n hG rfl rfl ?_
    refine q_iload_n hG rfl rfl ?_
    refine q_iconst (v := 4) hG rfl rfl ?_
    refine q_ldcR hG rfl ?_
    refine q_callV6 hG rfl rfl rfl (by assumption) (s_T_form hX0 hs0 hi (vbn := 4) ⟨by decide, by decide⟩ (k := 8) (hkf.2.2.2.2.2.2.2) (by decide) (by decide) (fun e1 J r f v3 n3 k3 => ?_) (fun e1 J r f => ?_))
    · have eV : vb l p = (4, fBind) := by unfold vb; rw [if_neg (by omega), if_neg (by omega), if_neg (by omega), if_neg (by omega), if_neg (by omega), if_neg (by omega)]
      have eC := cm_of eV
      refine q_iret5 hG rfl rfl (by decide) ?_
      rw [eC, eV] at p1
      exact p1 e1 J r f v3 n3 k3
    · have eV : vb l p = (4, fBind) := by unfold vb; rw [if_neg (by omega), if_neg (by omega), if_neg (by omega), if_neg (by omega), if_neg (by omega), if_neg (by omega)]
      have eC := cm_of eV
      refine q_iret5 hG rfl rfl (by decide) ?_
      rw [eC] at p0
      exact p0 e1 J r f
  refine ⟨fun hs8 => ?_, fun hs8_114 => ?_⟩
  · refine q_aload_n hG rfl rfl ?_
    refine q_iload_n hG rfl rfl ?_
    refine q_bipush (v := 8) hG rfl rfl ?_
    refine q_ldcR hG rfl ?_
    refine q_callV6 hG rfl rfl rfl (by assumption) (s_T_form hX0 hs0 hi (vbn := 8) ⟨by decide, by decide⟩ (k := 7) (hkf.2.2.2.2.2.2.1) (by decide) (by decide) (fun e1 J r f v3 n3 k3 => ?_) (fun e1 J r f => ?_))
    · have eV : vb l p = (8, fReset) := by unfold vb; rw [show sg l p = 114 by omega]; rfl
      have eC := cm_of eV
      refine q_iret5 hG rfl rfl (by decide) ?_
      rw [eC, eV] at p1
      exact p1 e1 J r f v3 n3 k3
    · have eV : vb l p = (8, fReset) := by unfold vb; rw [show sg l p = 114 by omega]; rfl
      have eC := cm_of eV
      refine q_iret5 hG rfl rfl (by decide) ?_
      rw [eC] at p0
      exact p0 e1 J r f
  refine ⟨fun hs8 => ?_, fun hs8_115 => ?_⟩
  · refine q_aload_n hG rfl rfl ?_
    refine q_iload_n hG rfl rfl ?_
    refine q_bipush (v := 7) hG rfl rfl ?_
    refine q_ldcR hG rfl ?_
    refine q_callV6 hG rfl rfl rfl (by assumption) (s_T_form hX0 hs0 hi (vbn := 7) ⟨by decide, by decide⟩ (k := 6) (hkf.2.2.2.2.2.1) (by decide) (by decide) (fun e1 J r f v3 n3 k3 => ?_) (fun e1 J r f => ?_))
    · have eV : vb l p = (7, fSettle) := by unfold vb; rw [show sg l p = 115 by omega]; rfl
      have eC := cm_of eV
      refine q_iret5 hG rfl rfl (by decide) ?_
      rw [eC, eV] at p1
      exact p1 e1 J r f v3 n3 k3
    · have eV : vb l p = (7, fSettle) := by unfold vb; rw [show sg l p = 115 by omega]; rfl
      have eC := cm_of eV
      refine q_iret5 hG rfl rfl (by decide) ?_
      rw [eC] at p0
      exact p0 e1 J r f
  refine q_aload_n hG rfl rfl ?_
  refine q_iload_n hG rfl rfl ?_
  refine q_iconst (v := 4) hG rfl rfl ?_
  refine q_ldcR hG rfl ?_
  refine q_callV6 hG rfl rfl rfl (by assumption) (s_T_form hX0 hs0 hi (vbn := 4) ⟨by decide, by decide⟩ (k := 8) (hkf.2.2.2.2.2.2.2) (by decide) (by decide) (fun e1 J r f v3 n3 k3 => ?_) (fun e1 J r f => ?_))
  · have eV : vb l p = (4, fBind) := by unfold vb; rw [if_neg (by omega), if_neg (by omega), if_neg (by omega), if_neg (by omega), if_neg (by omega), if_neg (by omega)]
    have eC := cm_of eV
    refine q_iret5 hG rfl rfl (by decide) ?_
    rw [eC, eV] at p1
    exact p1 e1 J r f v3 n3 k3
  · have eV : vb l p = (4, fBind) := by unfold vb; rw [if_neg (by omega), if_neg (by omega), if_neg (by omega), if_neg (by omega), if_neg (by omega), if_neg (by omega)]
    have eC := cm_of eV
    refine q_iret5 hG rfl rfl (by decide) ?_
    rw [eC] at p0
    exact p0 e1 J r f
theorem s_T_read {d : Nat} {B : HP} {I : IM} {Post : Out → HP → Prop} (hX : LX B) {v n : Nat} {l : List Int} (hs : rdT B I v n l) (hkf : kFm B I) (p1 : ∀ k, outS l k → k < 12 → ∀ J : IM, J 160 2 = ((k + 1 : Nat) : Int) → (∀ j, j ≤ k → cmS J l j) → sfA I J → Post (.inl (some (.int (i3 1)))) (wI B J)) (p0 : ∀ e, outF l e → e ≤ 60 → ∀ J : IM, J 160 1 = (e : Int) → sfA I J → Post (.inl (some (.int (i3 0)))) (wI B J)) : Sp (d + 10) k_X7_read [.ref 160] (wI B I) Post := by
  refine Sp_intro md_X7_read rfl rfl (fun G hG => ?_)
  have hX0 := hX
  obtain ⟨x0, x1, x2, x3, x4, x5, x6, x7, x8, x9, x10, x11, x12, x13, x14, x15, x16, x17, x18, x19, x20, x21, x22, x23, x24, x25, x26, x27, x28, x29, x30, x31, x32, x33, x34, x35, x36, x37, x38, x39, x40, x41, x42, x43, x44⟩ := hX
  have h60 : hK B 160 = (17, 0) := x35
  have hrt : hR B 160 0 = some 161 := x36
  obtain ⟨s1, s2, s3, s4, s5⟩ := hs
  have hk161 := s1.1
  have lp : ∀ (mz : Nat) (i : Nat) (J : IM), 12 - i = mz → i ≤ 12 → rdN l i → rdS B J v n l (cp l i) → (∀ j, j < i → cmS J l j) → sfA I J → G 7 [some (.ref 160), some (.int (i3 (i : Int)))] [] (wI B J) := by
    intro mz
    induction mz using Nat.strongRecOn with
    | ind mz ih =>
      intro i J hme hi hn hsJ hst hA
      have hkJ : kFm B J := hkf.row (fun a ha => hA.1 a (by unfold BIG at ha; omega) (by unfold BIG at ha; omega) (by unfold BIG at ha; omega) (by unfold BIG at ha; omega))
      have hcp := rdN_cp hn
      refine q_iload_n hG rfl rfl ?_
      refine q_bipush (v := 12) hG rfl rfl ?_
      refine q_icmp_ge hG rfl ⟨by omega, by omega⟩ ⟨by omega, by omega⟩ (fun hc10 => ?_) (fun hc10 => ?_)
      · refine q_iconst (v := 0) hG rfl rfl ?_
        refine q_iret5 hG rfl rfl (by decide) ?_
        have ei : i = 12 := by omega
        subst ei
        have hlt : ¬ cp l 12 < l.length := by omega
        have ec := cm_end hlt
        exact p0 (cp l 12) ⟨12, hn, Or.inl (by rw [ec]; exact ⟨rfl, rfl⟩)⟩ (by omega) J hsJ.2.2.2.2.2.1 hA
      · refine q_aload_n hG rfl rfl ?_
        refine q_iload_n hG rfl rfl ?_
        refine q_callV6 hG rfl rfl rfl (by assumption) (s_T_command hX0 hsJ hkJ (i := i) (by omega) (fun e1 J1 r1 f1 v1 n1 k1 => ?_) (fun e1 J1 r1 f1 => ?_))
        · have hc4 := cm_ok e1
          have hA1 : sfA I J1 := hA.trans (f1.A (by omega))
          have hcm : cmS J1 l i := ⟨v1, n1, k1⟩
          have hst1 : ∀ j, j < i + 1 → cmS J1 l j := fun j hj => if z : j = i then by rw [z]; exact hcm else (hst j (by omega)).mv f1 (by omega) (by omega)
          refine q_if_ne hG rfl ⟨by omega, by omega⟩ (fun _ => ?_) (fun q => absurd (by decide) q)
          refine q_aload_n hG rfl rfl ?_
          refine q_getI0v (v := ((cm l (cp l i)).2.1 : Int)) hG rfl (by assumption) (r1.2.2.2.2.2.1) ?_
          refine q_aload_n hG rfl rfl ?_
          refine q_getR hG rfl (by assumption) (by assumption) ?_
          refine q_callV6 hG rfl rfl rfl (by assumption) (s_J_len hk161 r1.2.1.2.1 ?_)
          refine q_icmp_lt hG rfl ⟨by omega, by omega⟩ ⟨by omega, by omega⟩ (fun hc34 => ?_) (fun hc34 => ?_)
          · refine q_aload_n hG rfl rfl ?_
            refine q_bipush (v := 59) hG rfl rfl ?_
            refine q_callV6 hG rfl rfl rfl (by assumption) (s_T_sign h60 hrt r1 (by omega) (fun e2 J2 r2 f2 => ?_) (fun e2 => ?_))
            · have hA2 := hA1
              have hst2 : ∀ j, j < i + 1 → cmS J2 l j := fun j hj => ⟨by rw [f2.1 163 (by decide)]; exact (hst1 j hj).1, fun z hz => by rw [f2.1 _ (by omega)]; exact (hst1 j hj).2.1 z hz, fun z => by rw [f2.1 164 (by decide)]; exact (hst1 j hj).2.2 z⟩
              refine q_if_ne hG rfl ⟨by omega, by omega⟩ (fun _ => ?_) (fun q => absurd (by decide) q)
              refine q_iinc (c := 1) hG rfl rfl rfl rfl ?_
              refine q_goto hG rfl ?_
              exact ih _ (by omega) (i + 1) J2 rfl (by omega) (hn.succ e1 e2) r2 hst2 (hA2.trans f2.A)
            · refine q_if_ne hG rfl ⟨by omega, by omega⟩ (fun q => absurd q (by decide)) (fun _ => ?_)
              refine q_iconst (v := 0) hG rfl rfl ?_
              refine q_iret5 hG rfl rfl (by decide) ?_
              exact p0 _ ⟨i, hn, Or.inr ⟨e1, by omega, e2, rfl⟩⟩ (by omega) J1 r1.2.2.2.2.2.1 hA1
          · refine q_aload_n hG rfl rfl ?_
            refine q_iload_n hG rfl rfl ?_
            refine q_iconst (v := 1) hG rfl rfl ?_
            refine q_iadd hG rfl ?_
            refine q_putI0 hG rfl (by assumption) ?_
            refine q_iconst (v := 1) hG rfl rfl ?_
            refine q_iret5 hG rfl rfl (by decide) ?_
            refine p1 i ⟨hn, e1, by omega⟩ (by omega) _ (by rw [st_same]; omega) (fun j hj => ?_) (hA1.trans ⟨fun a p _ _ _ => st_row _ _ p, fun k _ q => st_ne _ _ (fun z => q z.2)⟩)
            have h9 := hst1 j (by omega)
            exact ⟨by rw [st_row _ _ (by decide)]; exact h9.1, fun z hz => by rw [st_row _ _ (by omega)]; exact h9.2.1 z hz, fun z => by rw [st_row _ _ (by decide)]; exact h9.2.2 z⟩
        · refine q_if_ne hG rfl ⟨by omega, by omega⟩ (fun q => absurd q (by decide)) (fun _ => ?_)
          refine q_iconst (v := 0) hG rfl rfl ?_
          refine q_iret5 hG rfl rfl (by decide) ?_
          exact p0 _ ⟨i, hn, Or.inl ⟨e1, rfl⟩⟩ (by have := cm_le (l := l) (p := cp l i) (by omega); omega) J1 r1.2.2.2.2.2.1 (hA.trans (f1.A (by omega)))
  show G 0 [some (.ref 160), none] [] (wI B I)
  refine q_aload_n hG rfl rfl ?_
  refine q_iconst (v := 0) hG rfl rfl ?_
  refine q_putI0 hG rfl (by assumption) ?_
  refine q_iconst (v := 0) hG rfl rfl ?_
  refine q_istore_n hG rfl rfl ?_
  exact lp _ 0 _ rfl (by omega) (fun k hk => by omega) ⟨s1, s2.row (st_row _ _ (by decide)) (st_row _ _ (by omega)), s3, s4, s5, st_same _ _ _ _, by show 0 ≤ 61; omega⟩ (fun j hj => by omega) ⟨fun a p _ _ _ => st_row _ _ p, fun k p _ => st_ne _ _ (fun z => p z.2)⟩
