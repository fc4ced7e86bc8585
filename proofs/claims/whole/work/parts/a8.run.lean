/-! a command is run: the class, the reference -/
theorem no_fst {P : Nat → Prop} {n : Nat} (h : ¬ ∃ p, fst P n p) : ∀ k, k < n → ¬ P k := by
  intro k
  induction k using Nat.strongRecOn with
  | ind k ih =>
    intro hk hp
    exact h ⟨k, hk, hp, fun j hj => ih j hj (by omega)⟩
theorem unl_bd {q : Int} {R R' : RW} (hW : WfR q R) : 0 ≤ unl R R' ∧ unl R R' ≤ 12 := by
  obtain ⟨w0, -⟩ := hW
  have s := sm_bd (f := fun k => df (R (5 + 4 * k + 2)) (R' (5 + 4 * k + 2)) + df (R (5 + 4 * k + 3)) (R' (5 + 4 * k + 3))) (a := 0) (b := 2) (R 0).toNat (fun k _ => by
    have a := df_b (R (5 + 4 * k + 2)) (R' (5 + 4 * k + 2))
    have b := df_b (R (5 + 4 * k + 3)) (R' (5 + 4 * k + 3))
    omega)
  unfold unl
  omega
theorem outC_W {q : Int} {R R2 : RW} {v kd a b c : Int} (hW : WfR q R) (hv : 1 ≤ v ∧ v ≤ 8) (e : outC R v kd a b c = .inl R2) : WfR (q + 1000) R2 := by
  have w0 := hW.1
  rcases (show v = 1 ∨ v = 2 ∨ v = 3 ∨ v = 4 ∨ v = 5 ∨ v = 6 ∨ v = 7 ∨ v = 8 by omega) with z | z | z | z | z | z | z | z <;> subst z
  · by_cases h : rngP a b
    · by_cases h2 : R 0 < 6
      · rw [oc1_o h h2] at e
        rw [← Sum.inl.inj e]
        exact (addR_W hW h2 h).up (by omega)
      · rw [oc1_r h (by omega)] at e; cases e
    · rw [oc1_f h] at e; cases e
  · by_cases h : (0 ≤ a ∧ a < R 0) ∧ rngP b c
    · rw [oc2_o h] at e
      rw [← Sum.inl.inj e]
      exact (frmR_W hW (by omega) h.2).up (by omega)
    · rw [oc2_f h] at e; cases e
  · by_cases h : (0 ≤ a ∧ a < R 0) ∧ rngP b c
    · by_cases h2 : (if R (5 + 4 * a.toNat + 2) < b then b else R (5 + 4 * a.toNat + 2)) ≤ (if c < R (5 + 4 * a.toNat + 3) then c else R (5 + 4 * a.toNat + 3))
      · rw [oc3_o h h2] at e
        rw [← Sum.inl.inj e]
        refine (narR_W hW (by omega) ⟨?_, h2, ?_⟩).up (by omega)
        · split <;> omega
        · split <;> omega
      · rw [oc3_r h (Int.not_le.mp h2)] at e; cases e
    · rw [oc3_f h] at e; cases e
  · by_cases h : ((0 ≤ a ∧ a < R 0) ∧ (0 ≤ b ∧ b < R 0)) ∧ cnP kd a b c
    · by_cases h2 : R 1 < 10
      · by_cases h3 : ∃ p, fst (sameR R kd a b c) (R 1).toNat p
        · obtain ⟨p, hp⟩ := h3
          rw [oc4_s h h2 hp] at e; cases e
        · rw [oc4_o h h2 (no_fst h3)] at e
          rw [← Sum.inl.inj e]
          obtain ⟨k1, k2, k3, k4, k5⟩ := h.2
          exact (bndR_W hW h2 k1 h.1.1 h.1.2 k5 ⟨k2, k3⟩ k4).up (by omega)
      · rw [oc4_l h (by have := hW.2.1; omega)] at e; cases e
    · rw [oc4_f h] at e; cases e
  · by_cases h3 : ∃ p, fst (fun k => R (29 + 5 * k) = a) (R 1).toNat p
    · obtain ⟨p, hp⟩ := h3
      rw [oc5_o hp] at e
      rw [← Sum.inl.inj e]
      exact (drpR_W hW (by have := hp.1; omega)).up (by omega)
    · rw [oc5_f (no_fst h3)] at e; cases e
  · cases h : (paR R 1).2 with
    | none =>
      rw [oc6_o h] at e
      rw [← Sum.inl.inj e]
      have g := (paM_ok (wa := 1) (wfR_6 hW) (R 1).toNat 0 (ptR R) (by omega) (ptR_ok hW))
      exact setB_W hW (g.2.1 h) g.1 ⟨by omega, by omega⟩ (pa_bd hW h).2
    | some p => rw [oc6_r h] at e; cases e
  · cases h : (stR2 R 1).1 with
    | none =>
      rw [oc7_o h] at e
      rw [← Sum.inl.inj e]
      obtain ⟨g1, g2, g3, g4⟩ := stM_ok (wa := 1) (wfR_6 hW) 1000 (ptR R) 0 (ptR_ok hW) h
      have ww := okB_w (ptR_ok hW)
      have w2 := okB_w g1
      have g21 := g2.2.1
      have g22 := g2.2.2.1
      have z : (ptR R).2.2 = 0 := rfl
      have hb := st_bd hW h
      exact setB_W hW g1 g2 ⟨hb.1, by omega⟩ (by show (stM (cnR R) 1 (R 1).toNat 1000 (ptR R) 0).2.1.2.2 ≤ 1000; omega)
    | some p => rw [oc7_r h] at e; cases e
  · rw [oc8_o] at e
    rw [← Sum.inl.inj e]
    exact (openR_W hW).up (by omega)

theorem s_X_run {d : Nat} {B : HP} {I : IM} {Post : Out → HP → Prop} (hX : LX B) {R : RW} (hR : RepC I 1 R) {q : Int} (hW : WfR q R) (hq : q ≤ 2000000000) {i : Nat} (hi : i < 12) {v kd a b c : Int} (hv : 1 ≤ v ∧ v ≤ 8) (hab : v ≤ 5 → 0 ≤ a ∧ a ≤ 99) (hbb : v ≤ 4 → 0 ≤ b ∧ b ≤ 99) (hcb : v = 2 ∨ v = 3 ∨ v = 4 → 0 ≤ c ∧ c ≤ 99) (hkb : v = 4 → kd = 60 ∨ kd = 61 ∨ kd = 35) (hm1 : I 163 i = v) (hm2 : v = 4 → I 164 i = kd) (ha0 : v ≤ 5 → I (166 + i) 0 = a) (hb0 : v ≤ 4 → I (166 + i) 1 = b) (hc0 : v = 2 ∨ v = 3 ∨ v = 4 → I (166 + i) 2 = c) (pk : ∀ R2, outC R v kd a b c = .inl R2 → ∀ (J : IM) (z : Int), 0 ≤ z ∧ z ≤ 2000000000 → RepC J 1 R2 → dfr I J → Post (.inl (some (.int (i3 z)))) (wI B J)) (pr : ∀ r e, outC R v kd a b c = .inr (.inl (r, e)) → ∀ J : IM, rjf I J r e → Post (.inl (some (.int (i3 (-1))))) (wI B J)) (pf : outC R v kd a b c = .inr (.inr ()) → Post (.inl (some (.int (i3 (-2))))) (wI B I)) : Sp (d + 7) k_X8_runCommand [.ref 0, .int (i3 ((i : Int)))] (wI B I) Post := by
  refine Sp_intro md_X8_runCommand rfl rfl (fun G hG => ?_)
  have hX0 := hX
  obtain ⟨x0, x1, x2, x3, x4, x5, x6, x7, x8, x9, x10, x11, x12, x13, x14, x15, x16, x17, x18, x19, x20, x21, x22, x23, x24, x25, x26, x27, x28, x29, x30, x31, x32, x33, x34, x35, x36, x37, x38, x39, x40, x41, x42, x43, x44⟩ := hX
  obtain ⟨d1, d2, d3, d4, hF, hBd, hCo⟩ := x10
  obtain ⟨f1, f2, f3, f4, f5⟩ := hF
  obtain ⟨g1, g2, g3, g4, g5⟩ := hBd
  obtain ⟨c1, c2, c3, c4, c5, c6, c7, c8, c9, c10, c11⟩ := hCo
  obtain ⟨t1, t2, t3, t4, t5⟩ := x12
  have hR0 := hR
  obtain ⟨r0, r1, r2, r3, r4, rd, rc, ry⟩ := hR
  have r1 : I 8 0 = R 1 := r1
  have r2 : I 8 1 = R 2 := r2
  have rd : ∀ k, k < 6 → I 3 k = R (5 + 4 * k) ∧ I 4 k = R (5 + 4 * k + 1) ∧ I 6 k = R (5 + 4 * k + 2) ∧ I 7 k = R (5 + 4 * k + 3) := rd
  have rc : ∀ k : Nat, (k : Int) < R 1 → I 9 k = R (29 + 5 * k) ∧ I 10 k = R (29 + 5 * k + 1) ∧ I 11 k = R (29 + 5 * k + 2) ∧ I 12 k = R (29 + 5 * k + 3) ∧ I 13 k = R (29 + 5 * k + 4) := rc
  have ry : ∀ k, k < 10 → 0 ≤ I 10 k ∧ I 10 k < 65536 := ry
  have hW0 := hW
  obtain ⟨w0, w1, w2, w3, w4, wd, wc⟩ := hW
  have hrow : hR B 165 i = some (166 + i) ∧ hK B (166 + i) = (1, 3) := x44 i hi
  have hr1 := hrow.1
  have hr2 := hrow.2
  have ids : ∀ k : Nat, (k : Int) < I 8 0 → r32 (I 9 k) := fun k hk => by
    rw [r1] at hk
    have e := (rc k hk).1
    have u := (wc k hk).1
    rw [e]
    exact ⟨by omega, by omega⟩
  show G 0 [some (.ref 0), some (.int (i3 ((i : Int)))), none, none, none, none, none, none] [] (wI B I)
  refine q_aload_n hG rfl rfl ?_
  refine q_getR hG rfl (by assumption) (by assumption) ?_
  refine q_getR hG rfl (by assumption) (by assumption) ?_
  refine q_iload_n hG rfl rfl ?_
  refine q_cald hG rfl (by assumption) ⟨by omega, by omega, by omega⟩ ?_
  refine q_istore_n hG rfl rfl ?_
  refine q_aload_n hG rfl rfl ?_
  refine q_getR hG rfl (by assumption) (by assumption) ?_
  refine q_getR hG rfl (by assumption) (by assumption) ?_
  refine q_iload_n hG rfl rfl ?_
  refine q_aald hG rfl (by assumption) (by first | exact Or.inl rfl | exact Or.inr rfl) ⟨by omega, by omega, by omega⟩ (by assumption) ?_
  refine q_iconst (v := 0) hG rfl rfl ?_
  refine q_iald hG rfl (by assumption) ⟨by omega, by omega, by omega⟩ ?_
  refine q_istore_n hG rfl rfl ?_
  refine q_aload_n hG rfl rfl ?_
  refine q_getR hG rfl (by assumption) (by assumption) ?_
  refine q_getR hG rfl (by assumption) (by assumption) ?_
  refine q_iload_n hG rfl rfl ?_
  refine q_aald hG rfl (by assumption) (by first | exact Or.inl rfl | exact Or.inr rfl) ⟨by omega, by omega, by omega⟩ (by assumption) ?_
  refine q_iconst (v := 1) hG rfl rfl ?_
  refine q_iald hG rfl (by assumption) ⟨by omega, by omega, by omega⟩ ?_
  refine q_istore hG rfl rfl ?_
  refine q_aload_n hG rfl rfl ?_
  refine q_getR hG rfl (by assumption) (by assumption) ?_
  refine q_getR hG rfl (by assumption) (by assumption) ?_
  refine q_iload_n hG rfl rfl ?_
  refine q_aald hG rfl (by assumption) (by first | exact Or.inl rfl | exact Or.inr rfl) ⟨by omega, by omega, by omega⟩ (by assumption) ?_
  refine q_iconst (v := 2) hG rfl rfl ?_
  refine q_iald hG rfl (by assumption) ⟨by omega, by omega, by omega⟩ ?_
  refine q_istore hG rfl rfl ?_
  refine q_aload_n hG rfl rfl ?_
  refine q_getR hG rfl (by assumption) (by assumption) ?_
  refine q_getR hG rfl (by assumption) (by assumption) ?_
  refine q_iload_n hG rfl rfl ?_
  refine q_ialdv (v := v) hG rfl (by assumption) ⟨by omega, by omega, by omega⟩ (hm1) ?_
  refine q_tsw hG rfl ⟨by omega, by omega⟩ rfl ?_
  refine ⟨fun hs57 => ?_, fun hs57_1 => ?_⟩
  · subst hs57
    have a9 := hab (by omega)
    have b9 := hbb (by omega)
    rw [show I (166 + i) (0 : Int).toNat = a from ha0 (by omega), show I (166 + i) (1 : Int).toNat = b from hb0 (by omega)]
    refine q_iload_n hG rfl rfl ?_
    refine q_iload hG rfl rfl ?_
    refine q_callS0 hG rfl rfl rfl (s_X_range ⟨by omega, by omega⟩ ⟨by omega, by omega⟩ (fun hr => ?_) (fun hr => ?_))
    · refine q_if_eq hG rfl ⟨by omega, by omega⟩ (fun q => absurd q (by decide)) (fun _ => ?_)
      refine q_aload_n hG rfl rfl ?_
      refine q_iload_n hG rfl rfl ?_
      refine q_iload hG rfl rfl ?_
      refine q_callV6 hG rfl rfl rfl (by assumption) (s_X_enterDoor hX0 hR0 hW0 hq (fun h6 J o1 o2 => ?_) (fun h6 J o => ?_))
      · refine q_goto hG rfl ?_
        refine q_iret0 hG rfl rfl ?_
        first
        | exact pk _ (oc1_o hr h6) J _ ⟨by omega, by omega⟩ o1 o2
        | exact pr _ _ (oc1_r hr h6) J o
        | exact pf (oc1_f hr)
      · refine q_goto hG rfl ?_
        refine q_iret0 hG rfl rfl ?_
        first
        | exact pk _ (oc1_o hr h6) J _ ⟨by omega, by omega⟩ o1 o2
        | exact pr _ _ (oc1_r hr h6) J o
        | exact pf (oc1_f hr)
    · refine q_if_eq hG rfl ⟨by omega, by omega⟩ (fun _ => ?_) (fun q => absurd (by decide) q)
      refine q_bipush (v := -2) hG rfl rfl ?_
      refine q_iret0 hG rfl rfl ?_
      first
      | exact pk _ (oc1_o hr h6) J _ ⟨by omega, by omega⟩ o1 o2
      | exact pr _ _ (oc1_r hr h6) J o
      | exact pf (oc1_f hr)
  refine ⟨fun hs57 => ?_, fun hs57_2 => ?_⟩
  · subst hs57
    have a9 := hab (by omega)
    have b9 := hbb (by omega)
    have c9 := hcb (by omega)
    rw [show I (166 + i) (0 : Int).toNat = a from ha0 (by omega), show I (166 + i) (1 : Int).toNat = b from hb0 (by omega), show I (166 + i) (2 : Int).toNat = c from hc0 (by omega)]
    refine q_aload_n hG rfl rfl ?_
    refine q_getR hG rfl (by assumption) (by assumption) ?_
    refine q_iload_n hG rfl rfl ?_
    refine q_callV6 hG rfl rfl rfl (by assumption) (s_D_has hX0.2.2.2.2.2.2.2.2.2.2.1 ⟨by omega, by omega⟩ (by rw [r0]; exact w0) (fun d1 e1 => ?_) (fun d1 => ?_))
    · rw [r0] at e1
      refine q_if_eq hG rfl ⟨by omega, by omega⟩ (fun q => absurd q (by decide)) (fun _ => ?_)
      refine q_iload hG rfl rfl ?_
      refine q_iload hG rfl rfl ?_
      refine q_callS0 hG rfl rfl rfl (s_X_range ⟨by omega, by omega⟩ ⟨by omega, by omega⟩ (fun hr => ?_) (fun hr => ?_))
      · refine q_if_eq hG rfl ⟨by omega, by omega⟩ (fun q => absurd q (by decide)) (fun _ => ?_)
        refine q_aload_n hG rfl rfl ?_
        refine q_iload_n hG rfl rfl ?_
        refine q_iload hG rfl rfl ?_
        refine q_iload hG rfl rfl ?_
        refine q_callV6 hG rfl rfl rfl (by assumption) (s_X_changeFrame hX0 hR0 hW0 hq ⟨d1, e1⟩ hr (fun J o1 o2 => ?_))
        refine q_goto hG rfl ?_
        refine q_iret0 hG rfl rfl ?_
        first
        | exact pk _ (oc2_o ⟨⟨d1, e1⟩, hr⟩) J _ (by have := unl_bd (R' := frmR R a.toNat b c) hW0; omega) o1 o2
        | exact pf (oc2_f (fun z => hr z.2))
        | exact pf (oc2_f (fun z => d1 z.1))
      · refine q_if_eq hG rfl ⟨by omega, by omega⟩ (fun _ => ?_) (fun q => absurd (by decide) q)
        refine q_bipush (v := -2) hG rfl rfl ?_
        refine q_iret0 hG rfl rfl ?_
        first
        | exact pk _ (oc2_o ⟨⟨d1, e1⟩, hr⟩) J _ (by have := unl_bd (R' := frmR R a.toNat b c) hW0; omega) o1 o2
        | exact pf (oc2_f (fun z => hr z.2))
        | exact pf (oc2_f (fun z => d1 z.1))
    · rw [r0] at d1
      refine q_if_eq hG rfl ⟨by omega, by omega⟩ (fun _ => ?_) (fun q => absurd (by decide) q)
      refine q_bipush (v := -2) hG rfl rfl ?_
      refine q_iret0 hG rfl rfl ?_
      first
      | exact pk _ (oc2_o ⟨⟨d1, e1⟩, hr⟩) J _ (by have := unl_bd (R' := frmR R a.toNat b c) hW0; omega) o1 o2
      | exact pf (oc2_f (fun z => hr z.2))
      | exact pf (oc2_f (fun z => d1 z.1))
  refine ⟨fun hs57 => ?_, fun hs57_3 => ?_⟩
  · subst hs57
    have a9 := hab (by omega)
    have b9 := hbb (by omega)
    have c9 := hcb (by omega)
    rw [show I (166 + i) (0 : Int).toNat = a from ha0 (by omega), show I (166 + i) (1 : Int).toNat = b from hb0 (by omega), show I (166 + i) (2 : Int).toNat = c from hc0 (by omega)]
    refine q_aload_n hG rfl rfl ?_
    refine q_getR hG rfl (by assumption) (by assumption) ?_
    refine q_iload_n hG rfl rfl ?_
    refine q_callV6 hG rfl rfl rfl (by assumption) (s_D_has hX0.2.2.2.2.2.2.2.2.2.2.1 ⟨by omega, by omega⟩ (by rw [r0]; exact w0) (fun d1 e1 => ?_) (fun d1 => ?_))
    · rw [r0] at e1
      refine q_if_eq hG rfl ⟨by omega, by omega⟩ (fun q => absurd q (by decide)) (fun _ => ?_)
      refine q_iload hG rfl rfl ?_
      refine q_iload hG rfl rfl ?_
      refine q_callS0 hG rfl rfl rfl (s_X_range ⟨by omega, by omega⟩ ⟨by omega, by omega⟩ (fun hr => ?_) (fun hr => ?_))
      · refine q_if_eq hG rfl ⟨by omega, by omega⟩ (fun q => absurd q (by decide)) (fun _ => ?_)
        refine q_aload_n hG rfl rfl ?_
        refine q_iload_n hG rfl rfl ?_
        refine q_iload hG rfl rfl ?_
        refine q_iload hG rfl rfl ?_
        refine q_callV6 hG rfl rfl rfl (by assumption) (s_X_narrowDoor hX0 hR0 hW0 hq ⟨d1, e1⟩ hr (fun h6 J o1 o2 => ?_) (fun h6 J o => ?_))
        · refine q_goto hG rfl ?_
          refine q_iret0 hG rfl rfl ?_
          first
          | exact pk _ (oc3_o ⟨⟨d1, e1⟩, hr⟩ h6) J _ (by have d91 := df_b (if R (5 + 4 * a.toNat + 2) < b then b else R (5 + 4 * a.toNat + 2)) (R (5 + 4 * a.toNat + 2)); have d92 := df_b (if c < R (5 + 4 * a.toNat + 3) then c else R (5 + 4 * a.toNat + 3)) (R (5 + 4 * a.toNat + 3)); omega) o1 o2
          | exact pr _ _ (oc3_r ⟨⟨d1, e1⟩, hr⟩ h6) J o
          | exact pf (oc3_f (fun z => hr z.2))
          | exact pf (oc3_f (fun z => d1 z.1))
        · refine q_goto hG rfl ?_
          refine q_iret0 hG rfl rfl ?_
          first
          | exact pk _ (oc3_o ⟨⟨d1, e1⟩, hr⟩ h6) J _ (by have d91 := df_b (if R (5 + 4 * a.toNat + 2) < b then b else R (5 + 4 * a.toNat + 2)) (R (5 + 4 * a.toNat + 2)); have d92 := df_b (if c < R (5 + 4 * a.toNat + 3) then c else R (5 + 4 * a.toNat + 3)) (R (5 + 4 * a.toNat + 3)); omega) o1 o2
          | exact pr _ _ (oc3_r ⟨⟨d1, e1⟩, hr⟩ h6) J o
          | exact pf (oc3_f (fun z => hr z.2))
          | exact pf (oc3_f (fun z => d1 z.1))
      · refine q_if_eq hG rfl ⟨by omega, by omega⟩ (fun _ => ?_) (fun q => absurd (by decide) q)
        refine q_bipush (v := -2) hG rfl rfl ?_
        refine q_iret0 hG rfl rfl ?_
        first
        | exact pk _ (oc3_o ⟨⟨d1, e1⟩, hr⟩ h6) J _ (by have d91 := df_b (if R (5 + 4 * a.toNat + 2) < b then b else R (5 + 4 * a.toNat + 2)) (R (5 + 4 * a.toNat + 2)); have d92 := df_b (if c < R (5 + 4 * a.toNat + 3) then c else R (5 + 4 * a.toNat + 3)) (R (5 + 4 * a.toNat + 3)); omega) o1 o2
        | exact pr _ _ (oc3_r ⟨⟨d1, e1⟩, hr⟩ h6) J o
        | exact pf (oc3_f (fun z => hr z.2))
        | exact pf (oc3_f (fun z => d1 z.1))
    · rw [r0] at d1
      refine q_if_eq hG rfl ⟨by omega, by omega⟩ (fun _ => ?_) (fun q => absurd (by decide) q)
      refine q_bipush (v := -2) hG rfl rfl ?_
      refine q_iret0 hG rfl rfl ?_
      first
      | exact pk _ (oc3_o ⟨⟨d1, e1⟩, hr⟩ h6) J _ (by have d91 := df_b (if R (5 + 4 * a.toNat + 2) < b then b else R (5 + 4 * a.toNat + 2)) (R (5 + 4 * a.toNat + 2)); have d92 := df_b (if c < R (5 + 4 * a.toNat + 3) then c else R (5 + 4 * a.toNat + 3)) (R (5 + 4 * a.toNat + 3)); omega) o1 o2
      | exact pr _ _ (oc3_r ⟨⟨d1, e1⟩, hr⟩ h6) J o
      | exact pf (oc3_f (fun z => hr z.2))
      | exact pf (oc3_f (fun z => d1 z.1))
  refine ⟨fun hs57 => ?_, fun hs57_4 => ?_⟩
  · subst hs57
    have a9 := hab (by omega)
    have b9 := hbb (by omega)
    have c9 := hcb (by omega)
    have k9 := hkb rfl
    rw [show I (166 + i) (0 : Int).toNat = a from ha0 (by omega), show I (166 + i) (1 : Int).toNat = b from hb0 (by omega), show I (166 + i) (2 : Int).toNat = c from hc0 (by omega), show I 164 (i : Int).toNat = kd from hm2 rfl]
    refine q_aload_n hG rfl rfl ?_
    refine q_getR hG rfl (by assumption) (by assumption) ?_
    refine q_iload_n hG rfl rfl ?_
    refine q_callV6 hG rfl rfl rfl (by assumption) (s_D_has hX0.2.2.2.2.2.2.2.2.2.2.1 ⟨by omega, by omega⟩ (by rw [r0]; exact w0) (fun d1 e1 => ?_) (fun d1 => ?_))
    · rw [r0] at e1
      refine q_if_eq hG rfl ⟨by omega, by omega⟩ (fun q => absurd q (by decide)) (fun _ => ?_)
      refine q_aload_n hG rfl rfl ?_
      refine q_getR hG rfl (by assumption) (by assumption) ?_
      refine q_iload hG rfl rfl ?_
      refine q_callV6 hG rfl rfl rfl (by assumption) (s_D_has hX0.2.2.2.2.2.2.2.2.2.2.1 ⟨by omega, by omega⟩ (by rw [r0]; exact w0) (fun d2 e2 => ?_) (fun d2 => ?_))
      · rw [r0] at e2
        refine q_if_eq hG rfl ⟨by omega, by omega⟩ (fun q => absurd q (by decide)) (fun _ => ?_)
        refine q_iload_n hG rfl rfl ?_
        refine q_iload_n hG rfl rfl ?_
        refine q_iload hG rfl rfl ?_
        refine q_iload hG rfl rfl ?_
        refine q_callS0 hG rfl rfl rfl (s_X_isCon ⟨⟨by omega, by omega⟩, ⟨by omega, by omega⟩, ⟨by omega, by omega⟩, ⟨by omega, by omega⟩⟩ (fun hcn => ?_) (fun hcn => ?_))
        · refine q_if_eq hG rfl ⟨by omega, by omega⟩ (fun q => absurd q (by decide)) (fun _ => ?_)
          refine q_iconst (v := 1) hG rfl rfl ?_
          refine q_goto hG rfl ?_
          refine q_istore hG rfl rfl ?_
          refine q_iload hG rfl rfl ?_
          refine q_if_eq hG rfl ⟨by omega, by omega⟩ (fun q => absurd q (by decide)) (fun _ => ?_)
          refine q_aload_n hG rfl rfl ?_
          refine q_iload_n hG rfl rfl ?_
          refine q_iload_n hG rfl rfl ?_
          refine q_iload hG rfl rfl ?_
          refine q_iload hG rfl rfl ?_
          refine q_callV6 hG rfl rfl rfl (by assumption) (s_X_enterConstraint hX0 hR0 hW0 hq hcn ⟨d1, e1⟩ ⟨d2, e2⟩ (fun h6 J o => ?_) (fun h6 p hf J o => ?_) (fun h6 hf J o1 o2 => ?_))
          · refine q_goto hG rfl ?_
            refine q_iret0 hG rfl rfl ?_
            first
            | exact pk _ (oc4_o ⟨⟨⟨d1, e1⟩, ⟨d2, e2⟩⟩, hcn⟩ h6 hf) J _ ⟨by omega, by omega⟩ o1 o2
            | exact pr _ _ (oc4_s ⟨⟨⟨d1, e1⟩, ⟨d2, e2⟩⟩, hcn⟩ h6 hf) J o
            | exact pr _ _ (oc4_l ⟨⟨⟨d1, e1⟩, ⟨d2, e2⟩⟩, hcn⟩ h6) J o
            | exact pf (oc4_f (fun z => hcn z.2))
            | exact pf (oc4_f (fun z => d2 z.1.2))
            | exact pf (oc4_f (fun z => d1 z.1.1))
          · refine q_goto hG rfl ?_
            refine q_iret0 hG rfl rfl ?_
            first
            | exact pk _ (oc4_o ⟨⟨⟨d1, e1⟩, ⟨d2, e2⟩⟩, hcn⟩ h6 hf) J _ ⟨by omega, by omega⟩ o1 o2
            | exact pr _ _ (oc4_s ⟨⟨⟨d1, e1⟩, ⟨d2, e2⟩⟩, hcn⟩ h6 hf) J o
            | exact pr _ _ (oc4_l ⟨⟨⟨d1, e1⟩, ⟨d2, e2⟩⟩, hcn⟩ h6) J o
            | exact pf (oc4_f (fun z => hcn z.2))
            | exact pf (oc4_f (fun z => d2 z.1.2))
            | exact pf (oc4_f (fun z => d1 z.1.1))
          · refine q_goto hG rfl ?_
            refine q_iret0 hG rfl rfl ?_
            first
            | exact pk _ (oc4_o ⟨⟨⟨d1, e1⟩, ⟨d2, e2⟩⟩, hcn⟩ h6 hf) J _ ⟨by omega, by omega⟩ o1 o2
            | exact pr _ _ (oc4_s ⟨⟨⟨d1, e1⟩, ⟨d2, e2⟩⟩, hcn⟩ h6 hf) J o
            | exact pr _ _ (oc4_l ⟨⟨⟨d1, e1⟩, ⟨d2, e2⟩⟩, hcn⟩ h6) J o
            | exact pf (oc4_f (fun z => hcn z.2))
            | exact pf (oc4_f (fun z => d2 z.1.2))
            | exact pf (oc4_f (fun z => d1 z.1.1))
        · refine q_if_eq hG rfl ⟨by omega, by omega⟩ (fun _ => ?_) (fun q => absurd (by decide) q)
          refine q_iconst (v := 0) hG rfl rfl ?_
          refine q_istore hG rfl rfl ?_
          refine q_iload hG rfl rfl ?_
          refine q_if_eq hG rfl ⟨by omega, by omega⟩ (fun _ => ?_) (fun q => absurd (by decide) q)
          refine q_bipush (v := -2) hG rfl rfl ?_
          refine q_iret0 hG rfl rfl ?_
          first
          | exact pk _ (oc4_o ⟨⟨⟨d1, e1⟩, ⟨d2, e2⟩⟩, hcn⟩ h6 hf) J _ ⟨by omega, by omega⟩ o1 o2
          | exact pr _ _ (oc4_s ⟨⟨⟨d1, e1⟩, ⟨d2, e2⟩⟩, hcn⟩ h6 hf) J o
          | exact pr _ _ (oc4_l ⟨⟨⟨d1, e1⟩, ⟨d2, e2⟩⟩, hcn⟩ h6) J o
          | exact pf (oc4_f (fun z => hcn z.2))
          | exact pf (oc4_f (fun z => d2 z.1.2))
          | exact pf (oc4_f (fun z => d1 z.1.1))
      · rw [r0] at d2
        refine q_if_eq hG rfl ⟨by omega, by omega⟩ (fun _ => ?_) (fun q => absurd (by decide) q)
        refine q_iconst (v := 0) hG rfl rfl ?_
        refine q_istore hG rfl rfl ?_
        refine q_iload hG rfl rfl ?_
        refine q_if_eq hG rfl ⟨by omega, by omega⟩ (fun _ => ?_) (fun q => absurd (by decide) q)
        refine q_bipush (v := -2) hG rfl rfl ?_
        refine q_iret0 hG rfl rfl ?_
        first
        | exact pk _ (oc4_o ⟨⟨⟨d1, e1⟩, ⟨d2, e2⟩⟩, hcn⟩ h6 hf) J _ ⟨by omega, by omega⟩ o1 o2
        | exact pr _ _ (oc4_s ⟨⟨⟨d1, e1⟩, ⟨d2, e2⟩⟩, hcn⟩ h6 hf) J o
        | exact pr _ _ (oc4_l ⟨⟨⟨d1, e1⟩, ⟨d2, e2⟩⟩, hcn⟩ h6) J o
        | exact pf (oc4_f (fun z => hcn z.2))
        | exact pf (oc4_f (fun z => d2 z.1.2))
        | exact pf (oc4_f (fun z => d1 z.1.1))
    · rw [r0] at d1
      refine q_if_eq hG rfl ⟨by omega, by omega⟩ (fun _ => ?_) (fun q => absurd (by decide) q)
      refine q_iconst (v := 0) hG rfl rfl ?_
      refine q_istore hG rfl rfl ?_
      refine q_iload hG rfl rfl ?_
      refine q_if_eq hG rfl ⟨by omega, by omega⟩ (fun _ => ?_) (fun q => absurd (by decide) q)
      refine q_bipush (v := -2) hG rfl rfl ?_
      refine q_iret0 hG rfl rfl ?_
      first
      | exact pk _ (oc4_o ⟨⟨⟨d1, e1⟩, ⟨d2, e2⟩⟩, hcn⟩ h6 hf) J _ ⟨by omega, by omega⟩ o1 o2
      | exact pr _ _ (oc4_s ⟨⟨⟨d1, e1⟩, ⟨d2, e2⟩⟩, hcn⟩ h6 hf) J o
      | exact pr _ _ (oc4_l ⟨⟨⟨d1, e1⟩, ⟨d2, e2⟩⟩, hcn⟩ h6) J o
      | exact pf (oc4_f (fun z => hcn z.2))
      | exact pf (oc4_f (fun z => d2 z.1.2))
      | exact pf (oc4_f (fun z => d1 z.1.1))
  refine ⟨fun hs57 => ?_, fun hs57_5 => ?_⟩
  · subst hs57
    have a9 := hab (by omega)
    rw [show I (166 + i) (0 : Int).toNat = a from ha0 (by omega)]
    refine q_aload_n hG rfl rfl ?_
    refine q_getR hG rfl (by assumption) (by assumption) ?_
    refine q_getR hG rfl (by assumption) (by assumption) ?_
    refine q_iload_n hG rfl rfl ?_
    refine q_callV6 hG rfl rfl rfl (by assumption) (s_C_pos (c := 8) (I := I) hX0.2.2.2.2.2.2.2.2.2.2.1.2.2.2.2.2.2 (by rw [r1]; exact w1) ⟨by omega, by omega⟩ ids (fun p hf => ?_) (fun hf => ?_))
    · have hf2 : fst (fun k => R (29 + 5 * k) = a) (R 1).toNat p := by
        rw [r1] at hf
        exact fst_c (fun k hk => by have e := (rc k (by omega)).1; show I 9 k = a ↔ R (29 + 5 * k) = a; rw [e]) hf
      have hpl := hf2.1
      refine q_istore hG rfl rfl ?_
      refine q_iload hG rfl rfl ?_
      refine q_iconst (v := -1) hG rfl rfl ?_
      refine q_icmp_eq hG rfl ⟨by omega, by omega⟩ ⟨by omega, by omega⟩ (fun hc273 => ?_) (fun hc273 => ?_)
      · refine q_bipush (v := -2) hG rfl rfl ?_
        refine q_iret0 hG rfl rfl ?_
        first
        | (exfalso; omega)
        | exact pk _ (oc5_o hf2) J _ ⟨by omega, by omega⟩ o1 o2
        | exact pf (oc5_f hf2)
      · refine q_aload_n hG rfl rfl ?_
        refine q_iload hG rfl rfl ?_
        refine q_callV6 hG rfl rfl rfl (by assumption) (s_X_takeAway hX0 hR0 hW0 hq (p := p) (by omega) (fun J o1 o2 => ?_))
        refine q_goto hG rfl ?_
        refine q_iret0 hG rfl rfl ?_
        first
        | (exfalso; omega)
        | exact pk _ (oc5_o hf2) J _ ⟨by omega, by omega⟩ o1 o2
        | exact pf (oc5_f hf2)
    · have hf2 : ∀ k, k < (R 1).toNat → ¬ R (29 + 5 * k) = a := fun k hk z => by
        rw [r1] at hf
        refine hf k hk ?_
        have e := (rc k (by omega)).1
        show I 9 k = a
        rw [e]; exact z
      refine q_istore hG rfl rfl ?_
      refine q_iload hG rfl rfl ?_
      refine q_iconst (v := -1) hG rfl rfl ?_
      refine q_icmp_eq hG rfl ⟨by omega, by omega⟩ ⟨by omega, by omega⟩ (fun _ => ?_) (fun q => absurd (by decide) q)
      refine q_bipush (v := -2) hG rfl rfl ?_
      refine q_iret0 hG rfl rfl ?_
      first
      | (exfalso; omega)
      | exact pk _ (oc5_o hf2) J _ ⟨by omega, by omega⟩ o1 o2
      | exact pf (oc5_f hf2)
  refine ⟨fun hs57 => ?_, fun hs57_6 => ?_⟩
  · subst hs57
    refine q_aload_n hG rfl rfl ?_
    refine q_callV6 hG rfl rfl rfl (by assumption) (s_X_passOnce hX0 hR0 hW0 hq (fun h6 J o1 o2 => ?_) (fun p h6 J o => ?_))
    · have pb := pa_bd hW0 h6
      refine q_iret0 hG rfl rfl ?_
      first
      | exact pk _ (oc6_o h6) J _ (by omega) o1 o2
      | exact pr _ _ (oc6_r h6) J o
    · refine q_iret0 hG rfl rfl ?_
      first
      | exact pk _ (oc6_o h6) J _ (by omega) o1 o2
      | exact pr _ _ (oc6_r h6) J o
  refine ⟨fun hs57 => ?_, fun hs57_7 => ?_⟩
  · subst hs57
    refine q_aload_n hG rfl rfl ?_
    refine q_callV6 hG rfl rfl rfl (by assumption) (s_X_settle hX0 hR0 hW0 hq (fun h6 J o1 o2 => ?_) (fun p h6 J o => ?_))
    · have pb := st_bd hW0 h6
      refine q_iret0 hG rfl rfl ?_
      first
      | exact pk _ (oc7_o h6) J _ (by omega) o1 o2
      | exact pr _ _ (oc7_r h6) J o
    · refine q_iret0 hG rfl rfl ?_
      first
      | exact pk _ (oc7_o h6) J _ (by omega) o1 o2
      | exact pr _ _ (oc7_r h6) J o
  have ev : v = 8 := by omega
  subst ev
  refine q_aload_n hG rfl rfl ?_
  refine q_getR hG rfl (by assumption) (by assumption) ?_
  refine q_callV6 hG rfl rfl rfl (by assumption) (s_X_openAll hX0 hR0 hW0 hq (fun J o1 o2 => ?_))
  refine q_iret0 hG rfl rfl ?_
  exact pk _ oc8_o J _ (by have := unl_bd (R' := openR R) hW0; omega) o1 o2
theorem vch_inv {v kd : Int} (hv : 1 ≤ v ∧ v ≤ 8) (hk : v = 4 → kd = 60 ∨ kd = 61 ∨ kd = 35) : (vch v kd = 100 ↔ v = 1) ∧ (vch v kd = 102 ↔ v = 2) ∧ (vch v kd = 110 ↔ v = 3) ∧ (vch v kd = 117 ↔ v = 5) ∧ (vch v kd = 112 ↔ v = 6) ∧ (vch v kd = 115 ↔ v = 7) ∧ (vch v kd = 114 ↔ v = 8) ∧ (v = 4 → vch v kd = kd) ∧ 0 ≤ vch v kd ∧ vch v kd < 200 := by
  rcases (show v = 1 ∨ v = 2 ∨ v = 3 ∨ v = 4 ∨ v = 5 ∨ v = 6 ∨ v = 7 ∨ v = 8 by omega) with z | z | z | z | z | z | z | z <;> subst z
  · have e : vch 1 kd = 100 := rfl
    rw [e]; omega
  · have e : vch 2 kd = 102 := rfl
    rw [e]; omega
  · have e : vch 3 kd = 110 := rfl
    rw [e]; omega
  · have e : vch 4 kd = kd := rfl
    have := hk rfl
    rw [e]; omega
  · have e : vch 5 kd = 117 := rfl
    rw [e]; omega
  · have e : vch 6 kd = 112 := rfl
    rw [e]; omega
  · have e : vch 7 kd = 115 := rfl
    rw [e]; omega
  · have e : vch 8 kd = 114 := rfl
    rw [e]; omega
theorem s_R_does {d : Nat} {B : HP} {I : IM} {Post : Out → HP → Prop} {m : Nat} (hm : oM B m) {R : RW} {q : Int} (hR : RepM I m 0 R) (hW : WfR q R) (hq : q ≤ 2000000000) {t : Nat} (ht : t + 3 < 244) {v kd a b c : Int} (hv : 1 ≤ v ∧ v ≤ 8) (hab : v ≤ 5 → 0 ≤ a ∧ a ≤ 99) (hbb : v ≤ 4 → 0 ≤ b ∧ b ≤ 99) (hcb : v = 2 ∨ v = 3 ∨ v = 4 → 0 ≤ c ∧ c ≤ 99) (hkb : v = 4 → kd = 60 ∨ kd = 61 ∨ kd = 35) (hm1 : I (m + 5) t = vch v kd) (ha0 : v ≤ 5 → I (m + 5) (t + 1) = a) (hb0 : v ≤ 4 → I (m + 5) (t + 2) = b) (hc0 : v = 2 ∨ v = 3 ∨ v = 4 → I (m + 5) (t + 3) = c) (pk : ∀ R2, outC R v kd a b c = .inl R2 → ∀ (J : IM), RepM J m 0 R2 → mfr I J m → Post (.inl (some (.int (i3 0)))) (wI B J)) (pr : ∀ r e, outC R v kd a b c = .inr (.inl (r, e)) → ∀ J : IM, J m 8 = r → J m 9 = e → mfr I J m → Post (.inl (some (.int (i3 3)))) (wI B J)) (pf : outC R v kd a b c = .inr (.inr ()) → ∀ z : Int, (z = 1 ∨ z = 2 ∨ z = 4) → Post (.inl (some (.int (i3 z)))) (wI B I)) : Sp (d + 10) k_X9_does [.ref m, .int (i3 ((t : Int)))] (wI B I) Post := by
  refine Sp_intro md_X9_does rfl rfl (fun G hG => ?_)
  have hm0 := hm
  obtain ⟨n1, n2, n3, n4, n5, n6, n7, n8, n9, n10, n11⟩ := hm
  have hW0 := hW
  have hvc := vch_inv hv hkb
  have et : (t : Int).toNat = t := by omega
  show G 0 [some (.ref m), some (.int (i3 ((t : Int)))), none, none, none] [] (wI B I)
  refine q_aload_n hG rfl rfl ?_
  refine q_getR hG rfl (by assumption) (by assumption) ?_
  refine q_iload_n hG rfl rfl ?_
  refine q_iconst (v := 1) hG rfl rfl ?_
  refine q_iadd hG rfl ?_
  refine q_iald hG rfl (by assumption) ⟨by omega, by omega, by omega⟩ ?_
  refine q_istore_n hG rfl rfl ?_
  refine q_aload_n hG rfl rfl ?_
  refine q_getR hG rfl (by assumption) (by assumption) ?_
  refine q_iload_n hG rfl rfl ?_
  refine q_iconst (v := 2) hG rfl rfl ?_
  refine q_iadd hG rfl ?_
  refine q_iald hG rfl (by assumption) ⟨by omega, by omega, by omega⟩ ?_
  refine q_istore_n hG rfl rfl ?_
  refine q_aload_n hG rfl rfl ?_
  refine q_getR hG rfl (by assumption) (by assumption) ?_
  refine q_iload_n hG rfl rfl ?_
  refine q_iconst (v := 3) hG rfl rfl ?_
  refine q_iadd hG rfl ?_
  refine q_iald hG rfl (by assumption) ⟨by omega, by omega, by omega⟩ ?_
  refine q_istore hG rfl rfl ?_
  refine q_aload_n hG rfl rfl ?_
  refine q_getR hG rfl (by assumption) (by assumption) ?_
  refine q_iload_n hG rfl rfl ?_
  refine q_ialdv (v := vch v kd) hG rfl (by assumption) ⟨by omega, by omega, by omega⟩ ((congrArg (I (m + 5)) et).trans hm1) ?_
  refine q_tsw hG rfl ⟨by omega, by omega⟩ rfl ?_
  refine ⟨fun hs34 => ?_, fun hs34_100 => ?_⟩
  · have ev : v = 1 := by omega
    subst ev
    have a9 := hab (by omega)
    have b9 := hbb (by omega)
    rw [show I (m + 5) ((t : Int) + 1).toNat = a from (congrArg (I (m + 5)) (by omega)).trans (ha0 (by omega)), show I (m + 5) ((t : Int) + 2).toNat = b from (congrArg (I (m + 5)) (by omega)).trans (hb0 (by omega))]
    refine q_aload_n hG rfl rfl ?_
    refine q_iload_n hG rfl rfl ?_
    refine q_iload_n hG rfl rfl ?_
    refine q_callV6 hG rfl rfl rfl (by assumption) (s_R_adds hm0 hR hW0 hq ⟨by omega, by omega⟩ ⟨by omega, by omega⟩ (fun hr => ?_) (fun hr h6 J e8 e9 f => ?_) (fun hr h6 J r4 e4 f => ?_))
    · refine q_iret0 hG rfl rfl ?_
      first
      | exact pk _ (oc1_o hr h6) J r4 f
      | exact pr _ _ (oc1_r hr h6) J e8 e9 f
      | exact pf (oc1_f hr) _ (by omega)
    · refine q_iret0 hG rfl rfl ?_
      first
      | exact pk _ (oc1_o hr h6) J r4 f
      | exact pr _ _ (oc1_r hr h6) J e8 e9 f
      | exact pf (oc1_f hr) _ (by omega)
    · refine q_iret0 hG rfl rfl ?_
      first
      | exact pk _ (oc1_o hr h6) J r4 f
      | exact pr _ _ (oc1_r hr h6) J e8 e9 f
      | exact pf (oc1_f hr) _ (by omega)
  refine ⟨fun hs34 => ?_, fun hs34_101 => ?_⟩
  · have ev : v = 4 := by omega
    subst ev
    have a9 := hab (by omega)
    have b9 := hbb (by omega)
    have c9 := hcb (by omega)
    have k9 := hkb rfl
    rw [show I (m + 5) ((t : Int) + 1).toNat = a from (congrArg (I (m + 5)) (by omega)).trans (ha0 (by omega)), show I (m + 5) ((t : Int) + 2).toNat = b from (congrArg (I (m + 5)) (by omega)).trans (hb0 (by omega)), show I (m + 5) ((t : Int) + 3).toNat = c from (congrArg (I (m + 5)) (by omega)).trans (hc0 (by omega))]
    refine q_aload_n hG rfl rfl ?_
    refine q_aload_n hG rfl rfl ?_
    refine q_getR hG rfl (by assumption) (by assumption) ?_
    refine q_iload_n hG rfl rfl ?_
    refine q_ialdv (v := kd) hG rfl (by assumption) ⟨by omega, by omega, by omega⟩ ((congrArg (I (m + 5)) et).trans hm1) ?_
    refine q_iload_n hG rfl rfl ?_
    refine q_iload_n hG rfl rfl ?_
    refine q_iload hG rfl rfl ?_
    refine q_callV6 hG rfl rfl rfl (by assumption) (s_R_binds hm0 hR hW0 hq ⟨⟨by omega, by omega⟩, ⟨by omega, by omega⟩, ⟨by omega, by omega⟩, ⟨by omega, by omega⟩⟩ (fun hd => ?_) (fun hd hcn => ?_) (fun hd hcn h6 J e8 e9 f => ?_) (fun hd hcn h6 p hf J e8 e9 f => ?_) (fun hd hcn h6 hf J r4 e4 f => ?_))
    · refine q_iret0 hG rfl rfl ?_
      first
      | exact pk _ (oc4_o ⟨hd, hcn⟩ h6 hf) J r4 f
      | exact pr _ _ (oc4_s ⟨hd, hcn⟩ h6 hf) J e8 e9 f
      | exact pr _ _ (oc4_l ⟨hd, hcn⟩ h6) J e8 e9 f
      | exact pf (oc4_f (fun z => hcn z.2)) _ (by omega)
      | exact pf (oc4_f (fun z => hd z.1)) _ (by omega)
    · refine q_iret0 hG rfl rfl ?_
      first
      | exact pk _ (oc4_o ⟨hd, hcn⟩ h6 hf) J r4 f
      | exact pr _ _ (oc4_s ⟨hd, hcn⟩ h6 hf) J e8 e9 f
      | exact pr _ _ (oc4_l ⟨hd, hcn⟩ h6) J e8 e9 f
      | exact pf (oc4_f (fun z => hcn z.2)) _ (by omega)
      | exact pf (oc4_f (fun z => hd z.1)) _ (by omega)
    · refine q_iret0 hG rfl rfl ?_
      first
      | exact pk _ (oc4_o ⟨hd, hcn⟩ h6 hf) J r4 f
      | exact pr _ _ (oc4_s ⟨hd, hcn⟩ h6 hf) J e8 e9 f
      | exact pr _ _ (oc4_l ⟨hd, hcn⟩ h6) J e8 e9 f
      | exact pf (oc4_f (fun z => hcn z.2)) _ (by omega)
      | exact pf (oc4_f (fun z => hd z.1)) _ (by omega)
    · refine q_iret0 hG rfl rfl ?_
      first
      | exact pk _ (oc4_o ⟨hd, hcn⟩ h6 hf) J r4 f
      | exact pr _ _ (oc4_s ⟨hd, hcn⟩ h6 hf) J e8 e9 f
      | exact pr _ _ (oc4_l ⟨hd, hcn⟩ h6) J e8 e9 f
      | exact pf (oc4_f (fun z => hcn z.2)) _ (by omega)
      | exact pf (oc4_f (fun z => hd z.1)) _ (by omega)
    · refine q_iret0 hG rfl rfl ?_
      first
      | exact pk _ (oc4_o ⟨hd, hcn⟩ h6 hf) J r4 f
      | exact pr _ _ (oc4_s ⟨hd, hcn⟩ h6 hf) J e8 e9 f
      | exact pr _ _ (oc4_l ⟨hd, hcn⟩ h6) J e8 e9 f
      | exact pf (oc4_f (fun z => hcn z.2)) _ (by omega)
      | exact pf (oc4_f (fun z => hd z.1)) _ (by omega)
  refine ⟨fun hs34 => ?_, fun hs34_102 => ?_⟩
  · have ev : v = 2 := by omega
    subst ev
    have a9 := hab (by omega)
    have b9 := hbb (by omega)
    have c9 := hcb (by omega)
    rw [show I (m + 5) ((t : Int) + 1).toNat = a from (congrArg (I (m + 5)) (by omega)).trans (ha0 (by omega)), show I (m + 5) ((t : Int) + 2).toNat = b from (congrArg (I (m + 5)) (by omega)).trans (hb0 (by omega)), show I (m + 5) ((t : Int) + 3).toNat = c from (congrArg (I (m + 5)) (by omega)).trans (hc0 (by omega))]
    refine q_aload_n hG rfl rfl ?_
    refine q_iload_n hG rfl rfl ?_
    refine q_iload_n hG rfl rfl ?_
    refine q_iload hG rfl rfl ?_
    refine q_callV6 hG rfl rfl rfl (by assumption) (s_R_frames hm0 hR hW0 hq ⟨by omega, by omega⟩ ⟨by omega, by omega⟩ ⟨by omega, by omega⟩ (fun hd => ?_) (fun hd hr => ?_) (fun hd hr J r4 e4 f => ?_))
    · refine q_iret0 hG rfl rfl ?_
      first
      | exact pk _ (oc2_o ⟨hd, hr⟩) J r4 f
      | exact pf (oc2_f (fun z => hr z.2)) _ (by omega)
      | exact pf (oc2_f (fun z => hd z.1)) _ (by omega)
    · refine q_iret0 hG rfl rfl ?_
      first
      | exact pk _ (oc2_o ⟨hd, hr⟩) J r4 f
      | exact pf (oc2_f (fun z => hr z.2)) _ (by omega)
      | exact pf (oc2_f (fun z => hd z.1)) _ (by omega)
    · refine q_iret0 hG rfl rfl ?_
      first
      | exact pk _ (oc2_o ⟨hd, hr⟩) J r4 f
      | exact pf (oc2_f (fun z => hr z.2)) _ (by omega)
      | exact pf (oc2_f (fun z => hd z.1)) _ (by omega)
  refine ⟨fun hs34 => ?_, fun hs34_103 => ?_⟩
  · have ev : v = 4 := by omega
    subst ev
    have a9 := hab (by omega)
    have b9 := hbb (by omega)
    have c9 := hcb (by omega)
    have k9 := hkb rfl
    rw [show I (m + 5) ((t : Int) + 1).toNat = a from (congrArg (I (m + 5)) (by omega)).trans (ha0 (by omega)), show I (m + 5) ((t : Int) + 2).toNat = b from (congrArg (I (m + 5)) (by omega)).trans (hb0 (by omega)), show I (m + 5) ((t : Int) + 3).toNat = c from (congrArg (I (m + 5)) (by omega)).trans (hc0 (by omega))]
    refine q_aload_n hG rfl rfl ?_
    refine q_aload_n hG rfl rfl ?_
    refine q_getR hG rfl (by assumption) (by assumption) ?_
    refine q_iload_n hG rfl rfl ?_
    refine q_ialdv (v := kd) hG rfl (by assumption) ⟨by omega, by omega, by omega⟩ ((congrArg (I (m + 5)) et).trans hm1) ?_
    refine q_iload_n hG rfl rfl ?_
    refine q_iload_n hG rfl rfl ?_
    refine q_iload hG rfl rfl ?_
    refine q_callV6 hG rfl rfl rfl (by assumption) (s_R_binds hm0 hR hW0 hq ⟨⟨by omega, by omega⟩, ⟨by omega, by omega⟩, ⟨by omega, by omega⟩, ⟨by omega, by omega⟩⟩ (fun hd => ?_) (fun hd hcn => ?_) (fun hd hcn h6 J e8 e9 f => ?_) (fun hd hcn h6 p hf J e8 e9 f => ?_) (fun hd hcn h6 hf J r4 e4 f => ?_))
    · refine q_iret0 hG rfl rfl ?_
      first
      | exact pk _ (oc4_o ⟨hd, hcn⟩ h6 hf) J r4 f
      | exact pr _ _ (oc4_s ⟨hd, hcn⟩ h6 hf) J e8 e9 f
      | exact pr _ _ (oc4_l ⟨hd, hcn⟩ h6) J e8 e9 f
      | exact pf (oc4_f (fun z => hcn z.2)) _ (by omega)
      | exact pf (oc4_f (fun z => hd z.1)) _ (by omega)
    · refine q_iret0 hG rfl rfl ?_
      first
      | exact pk _ (oc4_o ⟨hd, hcn⟩ h6 hf) J r4 f
      | exact pr _ _ (oc4_s ⟨hd, hcn⟩ h6 hf) J e8 e9 f
      | exact pr _ _ (oc4_l ⟨hd, hcn⟩ h6) J e8 e9 f
      | exact pf (oc4_f (fun z => hcn z.2)) _ (by omega)
      | exact pf (oc4_f (fun z => hd z.1)) _ (by omega)
    · refine q_iret0 hG rfl rfl ?_
      first
      | exact pk _ (oc4_o ⟨hd, hcn⟩ h6 hf) J r4 f
      | exact pr _ _ (oc4_s ⟨hd, hcn⟩ h6 hf) J e8 e9 f
      | exact pr _ _ (oc4_l ⟨hd, hcn⟩ h6) J e8 e9 f
      | exact pf (oc4_f (fun z => hcn z.2)) _ (by omega)
      | exact pf (oc4_f (fun z => hd z.1)) _ (by omega)
    · refine q_iret0 hG rfl rfl ?_
      first
      | exact pk _ (oc4_o ⟨hd, hcn⟩ h6 hf) J r4 f
      | exact pr _ _ (oc4_s ⟨hd, hcn⟩ h6 hf) J e8 e9 f
      | exact pr _ _ (oc4_l ⟨hd, hcn⟩ h6) J e8 e9 f
      | exact pf (oc4_f (fun z => hcn z.2)) _ (by omega)
      | exact pf (oc4_f (fun z => hd z.1)) _ (by omega)
    · refine q_iret0 hG rfl rfl ?_
      first
      | exact pk _ (oc4_o ⟨hd, hcn⟩ h6 hf) J r4 f
      | exact pr _ _ (oc4_s ⟨hd, hcn⟩ h6 hf) J e8 e9 f
      | exact pr _ _ (oc4_l ⟨hd, hcn⟩ h6) J e8 e9 f
      | exact pf (oc4_f (fun z => hcn z.2)) _ (by omega)
      | exact pf (oc4_f (fun z => hd z.1)) _ (by omega)
  refine ⟨fun hs34 => ?_, fun hs34_104 => ?_⟩
  · have ev : v = 4 := by omega
    subst ev
    have a9 := hab (by omega)
    have b9 := hbb (by omega)
    have c9 := hcb (by omega)
    have k9 := hkb rfl
    rw [show I (m + 5) ((t : Int) + 1).toNat = a from (congrArg (I (m + 5)) (by omega)).trans (ha0 (by omega)), show I (m + 5) ((t : Int) + 2).toNat = b from (congrArg (I (m + 5)) (by omega)).trans (hb0 (by omega)), show I (m + 5) ((t : Int) + 3).toNat = c from (congrArg (I (m + 5)) (by omega)).trans (hc0 (by omega))]
    refine q_aload_n hG rfl rfl ?_
    refine q_aload_n hG rfl rfl ?_
    refine q_getR hG rfl (by assumption) (by assumption) ?_
    refine q_iload_n hG rfl rfl ?_
    refine q_ialdv (v := kd) hG rfl (by assumption) ⟨by omega, by omega, by omega⟩ ((congrArg (I (m + 5)) et).trans hm1) ?_
    refine q_iload_n hG rfl rfl ?_
    refine q_iload_n hG rfl rfl ?_
    refine q_iload hG rfl rfl ?_
    refine q_callV6 hG rfl rfl rfl (by assumption) (s_R_binds hm0 hR hW0 hq ⟨⟨by omega, by omega⟩, ⟨by omega, by omega⟩, ⟨by omega, by omega⟩, ⟨by omega, by omega⟩⟩ (fun hd => ?_) (fun hd hcn => ?_) (fun hd hcn h6 J e8 e9 f => ?_) (fun hd hcn h6 p hf J e8 e9 f => ?_) (fun hd hcn h6 hf J r4 e4 f => ?_))
    · refine q_iret0 hG rfl rfl ?_
      first
      | exact pk _ (oc4_o ⟨hd, hcn⟩ h6 hf) J r4 f
      | exact pr _ _ (oc4_s ⟨hd, hcn⟩ h6 hf) J e8 e9 f
      | exact pr _ _ (oc4_l ⟨hd, hcn⟩ h6) J e8 e9 f
      | exact pf (oc4_f (fun z => hcn z.2)) _ (by omega)
      | exact pf (oc4_f (fun z => hd z.1)) _ (by omega)
    · refine q_iret0 hG rfl rfl ?_
      first
      | exact pk _ (oc4_o ⟨hd, hcn⟩ h6 hf) J r4 f
      | exact pr _ _ (oc4_s ⟨hd, hcn⟩ h6 hf) J e8 e9 f
      | exact pr _ _ (oc4_l ⟨hd, hcn⟩ h6) J e8 e9 f
      | exact pf (oc4_f (fun z => hcn z.2)) _ (by omega)
      | exact pf (oc4_f (fun z => hd z.1)) _ (by omega)
    · refine q_iret0 hG rfl rfl ?_
      first
      | exact pk _ (oc4_o ⟨hd, hcn⟩ h6 hf) J r4 f
      | exact pr _ _ (oc4_s ⟨hd, hcn⟩ h6 hf) J e8 e9 f
      | exact pr _ _ (oc4_l ⟨hd, hcn⟩ h6) J e8 e9 f
      | exact pf (oc4_f (fun z => hcn z.2)) _ (by omega)
      | exact pf (oc4_f (fun z => hd z.1)) _ (by omega)
    · refine q_iret0 hG rfl rfl ?_
      first
      | exact pk _ (oc4_o ⟨hd, hcn⟩ h6 hf) J r4 f
      | exact pr _ _ (oc4_s ⟨hd, hcn⟩ h6 hf) J e8 e9 f
      | exact pr _ _ (oc4_l ⟨hd, hcn⟩ h6) J e8 e9 f
      | exact pf (oc4_f (fun z => hcn z.2)) _ (by omega)
      | exact pf (oc4_f (fun z => hd z.1)) _ (by omega)
    · refine q_iret0 hG rfl rfl ?_
      first
      | exact pk _ (oc4_o ⟨hd, hcn⟩ h6 hf) J r4 f
      | exact pr _ _ (oc4_s ⟨hd, hcn⟩ h6 hf) J e8 e9 f
      | exact pr _ _ (oc4_l ⟨hd, hcn⟩ h6) J e8 e9 f
      | exact pf (oc4_f (fun z => hcn z.2)) _ (by omega)
      | exact pf (oc4_f (fun z => hd z.1)) _ (by omega)
  refine ⟨fun hs34 => ?_, fun hs34_105 => ?_⟩
  · have ev : v = 4 := by omega
    subst ev
    have a9 := hab (by omega)
    have b9 := hbb (by omega)
    have c9 := hcb (by omega)
    have k9 := hkb rfl
    rw [show I (m + 5) ((t : Int) + 1).toNat = a from (congrArg (I (m + 5)) (by omega)).trans (ha0 (by omega)), show I (m + 5) ((t : Int) + 2).toNat = b from (congrArg (I (m + 5)) (by omega)).trans (hb0 (by omega)), show I (m + 5) ((t : Int) + 3).toNat = c from (congrArg (I (m + 5)) (by omega)).trans (hc0 (by omega))]
    refine q_aload_n hG rfl rfl ?_
    refine q_aload_n hG rfl rfl ?_
    refine q_getR hG rfl (by assumption) (by assumption) ?_
    refine q_iload_n hG rfl rfl ?_
    refine q_ialdv (v := kd) hG rfl (by assumption) ⟨by omega, by omega, by omega⟩ ((congrArg (I (m + 5)) et).trans hm1) ?_
    refine q_iload_n hG rfl rfl ?_
    refine q_iload_n hG rfl rfl ?_
    refine q_iload hG rfl rfl ?_
    refine q_callV6 hG rfl rfl rfl (by assumption) (s_R_binds hm0 hR hW0 hq ⟨⟨by omega, by omega⟩, ⟨by omega, by omega⟩, ⟨by omega, by omega⟩, ⟨by omega, by omega⟩⟩ (fun hd => ?_) (fun hd hcn => ?_) (fun hd hcn h6 J e8 e9 f => ?_) (fun hd hcn h6 p hf J e8 e9 f => ?_) (fun hd hcn h6 hf J r4 e4 f => ?_))
    · refine q_iret0 hG rfl rfl ?_
      first
      | exact pk _ (oc4_o ⟨hd, hcn⟩ h6 hf) J r4 f
      | exact pr _ _ (oc4_s ⟨hd, hcn⟩ h6 hf) J e8 e9 f
      | exact pr _ _ (oc4_l ⟨hd, hcn⟩ h6) J e8 e9 f
      | exact pf (oc4_f (fun z => hcn z.2)) _ (by omega)
      | exact pf (oc4_f (fun z => hd z.1)) _ (by omega)
    · refine q_iret0 hG rfl rfl ?_
      first
      | exact pk _ (oc4_o ⟨hd, hcn⟩ h6 hf) J r4 f
      | exact pr _ _ (oc4_s ⟨hd, hcn⟩ h6 hf) J e8 e9 f
      | exact pr _ _ (oc4_l ⟨hd, hcn⟩ h6) J e8 e9 f
      | exact pf (oc4_f (fun z => hcn z.2)) _ (by omega)
      | exact pf (oc4_f (fun z => hd z.1)) _ (by omega)
    · refine q_iret0 hG rfl rfl ?_
      first
      | exact pk _ (oc4_o ⟨hd, hcn⟩ h6 hf) J r4 f
      | exact pr _ _ (oc4_s ⟨hd, hcn⟩ h6 hf) J e8 e9 f
      | exact pr _ _ (oc4_l ⟨hd, hcn⟩ h6) J e8 e9 f
      | exact pf (oc4_f (fun z => hcn z.2)) _ (by omega)
      | exact pf (oc4_f (fun z => hd z.1)) _ (by omega)
    · refine q_iret0 hG rfl rfl ?_
      first
      | exact pk _ (oc4_o ⟨hd, hcn⟩ h6 hf) J r4 f
      | exact pr _ _ (oc4_s ⟨hd, hcn⟩ h6 hf) J e8 e9 f
      | exact pr _ _ (oc4_l ⟨hd, hcn⟩ h6) J e8 e9 f
      | exact pf (oc4_f (fun z => hcn z.2)) _ (by omega)
      | exact pf (oc4_f (fun z => hd z.1)) _ (by omega)
    · refine q_iret0 hG rfl rfl ?_
      first
      | exact pk _ (oc4_o ⟨hd, hcn⟩ h6 hf) J r4 f
      | exact pr _ _ (oc4_s ⟨hd, hcn⟩ h6 hf) J e8 e9 f
      | exact pr _ _ (oc4_l ⟨hd, hcn⟩ h6) J e8 e9 f
      | exact pf (oc4_f (fun z => hcn z.2)) _ (by omega)
      | exact pf (oc4_f (fun z => hd z.1)) _ (by omega)
  refine ⟨fun hs34 => ?_, fun hs34_106 => ?_⟩
  · have ev : v = 4 := by omega
    subst ev
    have a9 := hab (by omega)
    have b9 := hbb (by omega)
    have c9 := hcb (by omega)
    have k9 := hkb rfl
    rw [show I (m + 5) ((t : Int) + 1).toNat = a from (congrArg (I (m + 5)) (by omega)).trans (ha0 (by omega)), show I (m + 5) ((t : Int) + 2).toNat = b from (congrArg (I (m + 5)) (by omega)).trans (hb0 (by omega)), show I (m + 5) ((t : Int) + 3).toNat = c from (congrArg (I (m + 5)) (by omega)).trans (hc0 (by omega))]
    refine q_aload_n hG rfl rfl ?_
    refine q_aload_n hG rfl rfl ?_
    refine q_getR hG rfl (by assumption) (by assumption) ?_
    refine q_iload_n hG rfl rfl ?_
    refine q_ialdv (v := kd) hG rfl (by assumption) ⟨by omega, by omega, by omega⟩ ((congrArg (I (m + 5)) et).trans hm1) ?_
    refine q_iload_n hG rfl rfl ?_
    refine q_iload_n hG rfl rfl ?_
    refine q_iload hG rfl rfl ?_
    refine q_callV6 hG rfl rfl rfl (by assumption) (s_R_binds hm0 hR hW0 hq ⟨⟨by omega, by omega⟩, ⟨by omega, by omega⟩, ⟨by omega, by omega⟩, ⟨by omega, by omega⟩⟩ (fun hd => ?_) (fun hd hcn => ?_) (fun hd hcn h6 J e8 e9 f => ?_) (fun hd hcn h6 p hf J e8 e9 f => ?_) (fun hd hcn h6 hf J r4 e4 f => ?_))
    · refine q_iret0 hG rfl rfl ?_
      first
      | exact pk _ (oc4_o ⟨hd, hcn⟩ h6 hf) J r4 f
      | exact pr _ _ (oc4_s ⟨hd, hcn⟩ h6 hf) J e8 e9 f
      | exact pr _ _ (oc4_l ⟨hd, hcn⟩ h6) J e8 e9 f
      | exact pf (oc4_f (fun z => hcn z.2)) _ (by omega)
      | exact pf (oc4_f (fun z => hd z.1)) _ (by omega)
    · refine q_iret0 hG rfl rfl ?_
      first
      | exact pk _ (oc4_o ⟨hd, hcn⟩ h6 hf) J r4 f
      | exact pr _ _ (oc4_s ⟨hd, hcn⟩ h6 hf) J e8 e9 f
      | exact pr _ _ (oc4_l ⟨hd, hcn⟩ h6) J e8 e9 f
      | exact pf (oc4_f (fun z => hcn z.2)) _ (by omega)
      | exact pf (oc4_f (fun z => hd z.1)) _ (by omega)
    · refine q_iret0 hG rfl rfl ?_
      first
      | exact pk _ (oc4_o ⟨hd, hcn⟩ h6 hf) J r4 f
      | exact pr _ _ (oc4_s ⟨hd, hcn⟩ h6 hf) J e8 e9 f
      | exact pr _ _ (oc4_l ⟨hd, hcn⟩ h6) J e8 e9 f
      | exact pf (oc4_f (fun z => hcn z.2)) _ (by omega)
      | exact pf (oc4_f (fun z => hd z.1)) _ (by omega)
    · refine q_iret0 hG rfl rfl ?_
      first
      | exact pk _ (oc4_o ⟨hd, hcn⟩ h6 hf) J r4 f
      | exact pr _ _ (oc4_s ⟨hd, hcn⟩ h6 hf) J e8 e9 f
      | exact pr _ _ (oc4_l ⟨hd, hcn⟩ h6) J e8 e9 f
      | exact pf (oc4_f (fun z => hcn z.2)) _ (by omega)
      | exact pf (oc4_f (fun z => hd z.1)) _ (by omega)
    · refine q_iret0 hG rfl rfl ?_
      first
      | exact pk _ (oc4_o ⟨hd, hcn⟩ h6 hf) J r4 f
      | exact pr _ _ (oc4_s ⟨hd, hcn⟩ h6 hf) J e8 e9 f
      | exact pr _ _ (oc4_l ⟨hd, hcn⟩ h6) J e8 e9 f
      | exact pf (oc4_f (fun z => hcn z.2)) _ (by omega)
      | exact pf (oc4_f (fun z => hd z.1)) _ (by omega)
  refine ⟨fun hs34 => ?_, fun hs34_107 => ?_⟩
  · have ev : v = 4 := by omega
    subst ev
    have a9 := hab (by omega)
    have b9 := hbb (by omega)
    have c9 := hcb (by omega)
    have k9 := hkb rfl
    rw [show I (m + 5) ((t : Int) + 1).toNat = a from (congrArg (I (m + 5)) (by omega)).trans (ha0 (by omega)), show I (m + 5) ((t : Int) + 2).toNat = b from (congrArg (I (m + 5)) (by omega)).trans (hb0 (by omega)), show I (m + 5) ((t : Int) + 3).toNat = c from (congrArg (I (m + 5)) (by omega)).trans (hc0 (by omega))]
    refine q_aload_n hG rfl rfl ?_
    refine q_aload_n hG rfl rfl ?_
    refine q_getR hG rfl (by assumption) (by assumption) ?_
    refine q_iload_n hG rfl rfl ?_
    refine q_ialdv (v := kd) hG rfl (by assumption) ⟨by omega, by omega, by omega⟩ ((congrArg (I (m + 5)) et).trans hm1) ?_
    refine q_iload_n hG rfl rfl ?_
    refine q_iload_n hG rfl rfl ?_
    refine q_iload hG rfl rfl ?_
    refine q_callV6 hG rfl rfl rfl (by assumption) (s_R_binds hm0 hR hW0 hq ⟨⟨by omega, by omega⟩, ⟨by omega, by omega⟩, ⟨by omega, by omega⟩, ⟨by omega, by omega⟩⟩ (fun hd => ?_) (fun hd hcn => ?_) (fun hd hcn h6 J e8 e9 f => ?_) (fun hd hcn h6 p hf J e8 e9 f => ?_) (fun hd hcn h6 hf J r4 e4 f => ?_))
    · refine q_iret0 hG rfl rfl ?_
      first
      | exact pk _ (oc4_o ⟨hd, hcn⟩ h6 hf) J r4 f
      | exact pr _ _ (oc4_s ⟨hd, hcn⟩ h6 hf) J e8 e9 f
      | exact pr _ _ (oc4_l ⟨hd, hcn⟩ h6) J e8 e9 f
      | exact pf (oc4_f (fun z => hcn z.2)) _ (by omega)
      | exact pf (oc4_f (fun z => hd z.1)) _ (by omega)
    · refine q_iret0 hG rfl rfl ?_
      first
      | exact pk _ (oc4_o ⟨hd, hcn⟩ h6 hf) J r4 f
      | exact pr _ _ (oc4_s ⟨hd, hcn⟩ h6 hf) J e8 e9 f
      | exact pr _ _ (oc4_l ⟨hd, hcn⟩ h6) J e8 e9 f
      | exact pf (oc4_f (fun z => hcn z.2)) _ (by omega)
      | exact pf (oc4_f (fun z => hd z.1)) _ (by omega)
    · refine q_iret0 hG rfl rfl ?_
      first
      | exact pk _ (oc4_o ⟨hd, hcn⟩ h6 hf) J r4 f
      | exact pr _ _ (oc4_s ⟨hd, hcn⟩ h6 hf) J e8 e9 f
      | exact pr _ _ (oc4_l ⟨hd, hcn⟩ h6) J e8 e9 f
      | exact pf (oc4_f (fun z => hcn z.2)) _ (by omega)
      | exact pf (oc4_f (fun z => hd z.1)) _ (by omega)
    · refine q_iret0 hG rfl rfl ?_
      first
      | exact pk _ (oc4_o ⟨hd, hcn⟩ h6 hf) J r4 f
      | exact pr _ _ (oc4_s ⟨hd, hcn⟩ h6 hf) J e8 e9 f
      | exact pr _ _ (oc4_l ⟨hd, hcn⟩ h6) J e8 e9 f
      | exact pf (oc4_f (fun z => hcn z.2)) _ (by omega)
      | exact pf (oc4_f (fun z => hd z.1)) _ (by omega)
    · refine q_iret0 hG rfl rfl ?_
      first
      | exact pk _ (oc4_o ⟨hd, hcn⟩ h6 hf) J r4 f
      | exact pr _ _ (oc4_s ⟨hd, hcn⟩ h6 hf) J e8 e9 f
      | exact pr _ _ (oc4_l ⟨hd, hcn⟩ h6) J e8 e9 f
      | exact pf (oc4_f (fun z => hcn z.2)) _ (by omega)
      | exact pf (oc4_f (fun z => hd z.1)) _ (by omega)
  refine ⟨fun hs34 => ?_, fun hs34_108 => ?_⟩
  · have ev : v = 4 := by omega
    subst ev
    have a9 := hab (by omega)
    have b9 := hbb (by omega)
    have c9 := hcb (by omega)
    have k9 := hkb rfl
    rw [show I (m + 5) ((t : Int) + 1).toNat = a from (congrArg (I (m + 5)) (by omega)).trans (ha0 (by omega)), show I (m + 5) ((t : Int) + 2).toNat = b from (congrArg (I (m + 5)) (by omega)).trans (hb0 (by omega)), show I (m + 5) ((t : Int) + 3).toNat = c from (congrArg (I (m + 5)) (by omega)).trans (hc0 (by omega))]
    refine q_aload_n hG rfl rfl ?_
    refine q_aload_n hG rfl rfl ?_
    refine q_getR hG rfl (by assumption) (by assumption) ?_
    refine q_iload_n hG rfl rfl ?_
    refine q_ialdv (v := kd) hG rfl (by assumption) ⟨by omega, by omega, by omega⟩ ((congrArg (I (m + 5)) et).trans hm1) ?_
    refine q_iload_n hG rfl rfl ?_
    refine q_iload_n hG rfl rfl ?_
    refine q_iload hG rfl rfl ?_
    refine q_callV6 hG rfl rfl rfl (by assumption) (s_R_binds hm0 hR hW0 hq ⟨⟨by omega, by omega⟩, ⟨by omega, by omega⟩, ⟨by omega, by omega⟩, ⟨by omega, by omega⟩⟩ (fun hd => ?_) (fun hd hcn => ?_) (fun hd hcn h6 J e8 e9 f => ?_) (fun hd hcn h6 p hf J e8 e9 f => ?_) (fun hd hcn h6 hf J r4 e4 f => ?_))
    · refine q_iret0 hG rfl rfl ?_
      first
      | exact pk _ (oc4_o ⟨hd, hcn⟩ h6 hf) J r4 f
      | exact pr _ _ (oc4_s ⟨hd, hcn⟩ h6 hf) J e8 e9 f
      | exact pr _ _ (oc4_l ⟨hd, hcn⟩ h6) J e8 e9 f
      | exact pf (oc4_f (fun z => hcn z.2)) _ (by omega)
      | exact pf (oc4_f (fun z => hd z.1)) _ (by omega)
    · refine q_iret0 hG rfl rfl ?_
      first
      | exact pk _ (oc4_o ⟨hd, hcn⟩ h6 hf) J r4 f
      | exact pr _ _ (oc4_s ⟨hd, hcn⟩ h6 hf) J e8 e9 f
      | exact pr _ _ (oc4_l ⟨hd, hcn⟩ h6) J e8 e9 f
      | exact pf (oc4_f (fun z => hcn z.2)) _ (by omega)
      | exact pf (oc4_f (fun z => hd z.1)) _ (by omega)
    · refine q_iret0 hG rfl rfl ?_
      first
      | exact pk _ (oc4_o ⟨hd, hcn⟩ h6 hf) J r4 f
      | exact pr _ _ (oc4_s ⟨hd, hcn⟩ h6 hf) J e8 e9 f
      | exact pr _ _ (oc4_l ⟨hd, hcn⟩ h6) J e8 e9 f
      | exact pf (oc4_f (fun z => hcn z.2)) _ (by omega)
      | exact pf (oc4_f (fun z => hd z.1)) _ (by omega)
    · refine q_iret0 hG rfl rfl ?_
      first
      | exact pk _ (oc4_o ⟨hd, hcn⟩ h6 hf) J r4 f
      | exact pr _ _ (oc4_s ⟨hd, hcn⟩ h6 hf) J e8 e9 f
      | exact pr _ _ (oc4_l ⟨hd, hcn⟩ h6) J e8 e9 f
      | exact pf (oc4_f (fun z => hcn z.2)) _ (by omega)
      | exact pf (oc4_f (fun z => hd z.1)) _ (by omega)
    · refine q_iret0 hG rfl rfl ?_
      first
      | exact pk _ (oc4_o ⟨hd, hcn⟩ h6 hf) J r4 f
      | exact pr _ _ (oc4_s ⟨hd, hcn⟩ h6 hf) J e8 e9 f
      | exact pr _ _ (oc4_l ⟨hd, hcn⟩ h6) J e8 e9 f
      | exact pf (oc4_f (fun z => hcn z.2)) _ (by omega)
      | exact pf (oc4_f (fun z => hd z.1)) _ (by omega)
  refine ⟨fun hs34 => ?_, fun hs34_109 => ?_⟩
  · have ev : v = 4 := by omega
    subst ev
    have a9 := hab (by omega)
    have b9 := hbb (by omega)
    have c9 := hcb (by omega)
    have k9 := hkb rfl
    rw [show I (m + 5) ((t : Int) + 1).toNat = a from (congrArg (I (m + 5)) (by omega)).trans (ha0 (by omega)), show I (m + 5) ((t : Int) + 2).toNat = b from (congrArg (I (m + 5)) (by omega)).trans (hb0 (by omega)), show I (m + 5) ((t : Int) + 3).toNat = c from (congrArg (I (m + 5)) (by omega)).trans (hc0 (by omega))]
    refine q_aload_n hG rfl rfl ?_
    refine q_aload_n hG rfl rfl ?_
    refine q_getR hG rfl (by assumption) (by assumption) ?_
    refine q_iload_n hG rfl rfl ?_
    refine q_ialdv (v := kd) hG rfl (by assumption) ⟨by omega, by omega, by omega⟩ ((congrArg (I (m + 5)) et).trans hm1) ?_
    refine q_iload_n hG rfl rfl ?_
    refine q_iload_n hG rfl rfl ?_
    refine q_iload hG rfl rfl ?_
    refine q_callV6 hG rfl rfl rfl (by assumption) (s_R_binds hm0 hR hW0 hq ⟨⟨by omega, by omega⟩, ⟨by omega, by omega⟩, ⟨by omega, by omega⟩, ⟨by omega, by omega⟩⟩ (fun hd => ?_) (fun hd hcn => ?_) (fun hd hcn h6 J e8 e9 f => ?_) (fun hd hcn h6 p hf J e8 e9 f => ?_) (fun hd hcn h6 hf J r4 e4 f => ?_))
    · refine q_iret0 hG rfl rfl ?_
      first
      | exact pk _ (oc4_o ⟨hd, hcn⟩ h6 hf) J r4 f
      | exact pr _ _ (oc4_s ⟨hd, hcn⟩ h6 hf) J e8 e9 f
      | exact pr _ _ (oc4_l ⟨hd, hcn⟩ h6) J e8 e9 f
      | exact pf (oc4_f (fun z => hcn z.2)) _ (by omega)
      | exact pf (oc4_f (fun z => hd z.1)) _ (by omega)
    · refine q_iret0 hG rfl rfl ?_
      first
      | exact pk _ (oc4_o ⟨hd, hcn⟩ h6 hf) J r4 f
      | exact pr _ _ (oc4_s ⟨hd, hcn⟩ h6 hf) J e8 e9 f
      | exact pr _ _ (oc4_l ⟨hd, hcn⟩ h6) J e8 e9 f
      | exact pf (oc4_f (fun z => hcn z.2)) _ (by omega)
      | exact pf (oc4_f (fun z => hd z.1)) _ (by omega)
    · refine q_iret0 hG rfl rfl ?_
      first
      | exact pk _ (oc4_o ⟨hd, hcn⟩ h6 hf) J r4 f
      | exact pr _ _ (oc4_s ⟨hd, hcn⟩ h6 hf) J e8 e9 f
      | exact pr _ _ (oc4_l ⟨hd, hcn⟩ h6) J e8 e9 f
      | exact pf (oc4_f (fun z => hcn z.2)) _ (by omega)
      | exact pf (oc4_f (fun z => hd z.1)) _ (by omega)
    · refine q_iret0 hG rfl rfl ?_
      first
      | exact pk _ (oc4_o ⟨hd, hcn⟩ h6 hf) J r4 f
      | exact pr _ _ (oc4_s ⟨hd, hcn⟩ h6 hf) J e8 e9 f
      | exact pr _ _ (oc4_l ⟨hd, hcn⟩ h6) J e8 e9 f
      | exact pf (oc4_f (fun z => hcn z.2)) _ (by omega)
      | exact pf (oc4_f (fun z => hd z.1)) _ (by omega)
    · refine q_iret0 hG rfl rfl ?_
      first
      | exact pk _ (oc4_o ⟨hd, hcn⟩ h6 hf) J r4 f
      | exact pr _ _ (oc4_s ⟨hd, hcn⟩ h6 hf) J e8 e9 f
      | exact pr _ _ (oc4_l ⟨hd, hcn⟩ h6) J e8 e9 f
      | exact pf (oc4_f (fun z => hcn z.2)) _ (by omega)
      | exact pf (oc4_f (fun z => hd z.1)) _ (by omega)
  refine ⟨fun hs34 => ?_, fun hs34_110 => ?_⟩
  · have ev : v = 3 := by omega
    subst ev
    have a9 := hab (by omega)
    have b9 := hbb (by omega)
    have c9 := hcb (by omega)
    rw [show I (m + 5) ((t : Int) + 1).toNat = a from (congrArg (I (m + 5)) (by omega)).trans (ha0 (by omega)), show I (m + 5) ((t : Int) + 2).toNat = b from (congrArg (I (m + 5)) (by omega)).trans (hb0 (by omega)), show I (m + 5) ((t : Int) + 3).toNat = c from (congrArg (I (m + 5)) (by omega)).trans (hc0 (by omega))]
    refine q_aload_n hG rfl rfl ?_
    refine q_iload_n hG rfl rfl ?_
    refine q_iload_n hG rfl rfl ?_
    refine q_iload hG rfl rfl ?_
    refine q_callV6 hG rfl rfl rfl (by assumption) (s_R_narrowed hm0 hR hW0 hq ⟨by omega, by omega⟩ ⟨by omega, by omega⟩ ⟨by omega, by omega⟩ (fun hd => ?_) (fun hd hr => ?_) (fun hd hr h6 J e8 e9 f => ?_) (fun hd hr h6 J r4 e4 f => ?_))
    · refine q_iret0 hG rfl rfl ?_
      first
      | exact pk _ (oc3_o ⟨hd, hr⟩ h6) J r4 f
      | exact pr _ _ (oc3_r ⟨hd, hr⟩ h6) J e8 e9 f
      | exact pf (oc3_f (fun z => hr z.2)) _ (by omega)
      | exact pf (oc3_f (fun z => hd z.1)) _ (by omega)
    · refine q_iret0 hG rfl rfl ?_
      first
      | exact pk _ (oc3_o ⟨hd, hr⟩ h6) J r4 f
      | exact pr _ _ (oc3_r ⟨hd, hr⟩ h6) J e8 e9 f
      | exact pf (oc3_f (fun z => hr z.2)) _ (by omega)
      | exact pf (oc3_f (fun z => hd z.1)) _ (by omega)
    · refine q_iret0 hG rfl rfl ?_
      first
      | exact pk _ (oc3_o ⟨hd, hr⟩ h6) J r4 f
      | exact pr _ _ (oc3_r ⟨hd, hr⟩ h6) J e8 e9 f
      | exact pf (oc3_f (fun z => hr z.2)) _ (by omega)
      | exact pf (oc3_f (fun z => hd z.1)) _ (by omega)
    · refine q_iret0 hG rfl rfl ?_
      first
      | exact pk _ (oc3_o ⟨hd, hr⟩ h6) J r4 f
      | exact pr _ _ (oc3_r ⟨hd, hr⟩ h6) J e8 e9 f
      | exact pf (oc3_f (fun z => hr z.2)) _ (by omega)
      | exact pf (oc3_f (fun z => hd z.1)) _ (by omega)
  refine ⟨fun hs34 => ?_, fun hs34_111 => ?_⟩
  · have ev : v = 4 := by omega
    subst ev
    have a9 := hab (by omega)
    have b9 := hbb (by omega)
    have c9 := hcb (by omega)
    have k9 := hkb rfl
    rw [show I (m + 5) ((t : Int) + 1).toNat = a from (congrArg (I (m + 5)) (by omega)).trans (ha0 (by omega)), show I (m + 5) ((t : Int) + 2).toNat = b from (congrArg (I (m + 5)) (by omega)).trans (hb0 (by omega)), show I (m + 5) ((t : Int) + 3).toNat = c from (congrArg (I (m + 5)) (by omega)).trans (hc0 (by omega))]
    refine q_aload_n hG rfl rfl ?_
    refine q_aload_n hG rfl rfl ?_
    refine q_getR hG rfl (by assumption) (by assumption) ?_
    refine q_iload_n hG rfl rfl ?_
    refine q_ialdv (v := kd) hG rfl (by assumption) ⟨by omega, by omega, by omega⟩ ((congrArg (I (m + 5)) et).trans hm1) ?_
    refine q_iload_n hG rfl rfl ?_
    refine q_iload_n hG rfl rfl ?_
    refine q_iload hG rfl rfl ?_
    refine q_callV6 hG rfl rfl rfl (by assumption) (s_R_binds hm0 hR hW0 hq ⟨⟨by omega, by omega⟩, ⟨by omega, by omega⟩, ⟨by omega, by omega⟩, ⟨by omega, by omega⟩⟩ (fun hd => ?_) (fun hd hcn => ?_) (fun hd hcn h6 J e8 e9 f => ?_) (fun hd hcn h6 p hf J e8 e9 f => ?_) (fun hd hcn h6 hf J r4 e4 f => ?_))
    · refine q_iret0 hG rfl rfl ?_
      first
      | exact pk _ (oc4_o ⟨hd, hcn⟩ h6 hf) J r4 f
      | exact pr _ _ (oc4_s ⟨hd, hcn⟩ h6 hf) J e8 e9 f
      | exact pr _ _ (oc4_l ⟨hd, hcn⟩ h6) J e8 e9 f
      | exact pf (oc4_f (fun z => hcn z.2)) _ (by omega)
      | exact pf (oc4_f (fun z => hd z.1)) _ (by omega)
    · refine q_iret0 hG rfl rfl ?_
      first
      | exact pk _ (oc4_o ⟨hd, hcn⟩ h6 hf) J r4 f
      | exact pr _ _ (oc4_s ⟨hd, hcn⟩ h6 hf) J e8 e9 f
      | exact pr _ _ (oc4_l ⟨hd, hcn⟩ h6) J e8 e9 f
      | exact pf (oc4_f (fun z => hcn z.2)) _ (by omega)
      | exact pf (oc4_f (fun z => hd z.1)) _ (by omega)
    · refine q_iret0 hG rfl rfl ?_
      first
      | exact pk _ (oc4_o ⟨hd, hcn⟩ h6 hf) J r4 f
      | exact pr _ _ (oc4_s ⟨hd, hcn⟩ h6 hf) J e8 e9 f
      | exact pr _ _ (oc4_l ⟨hd, hcn⟩ h6) J e8 e9 f
      | exact pf (oc4_f (fun z => hcn z.2)) _ (by omega)
      | exact pf (oc4_f (fun z => hd z.1)) _ (by omega)
    · refine q_iret0 hG rfl rfl ?_
      first
      | exact pk _ (oc4_o ⟨hd, hcn⟩ h6 hf) J r4 f
      | exact pr _ _ (oc4_s ⟨hd, hcn⟩ h6 hf) J e8 e9 f
      | exact pr _ _ (oc4_l ⟨hd, hcn⟩ h6) J e8 e9 f
      | exact pf (oc4_f (fun z => hcn z.2)) _ (by omega)
      | exact pf (oc4_f (fun z => hd z.1)) _ (by omega)
    · refine q_iret0 hG rfl rfl ?_
      first
      | exact pk _ (oc4_o ⟨hd, hcn⟩ h6 hf) J r4 f
      | exact pr _ _ (oc4_s ⟨hd, hcn⟩ h6 hf) J e8 e9 f
      | exact pr _ _ (oc4_l ⟨hd, hcn⟩ h6) J e8 e9 f
      | exact pf (oc4_f (fun z => hcn z.2)) _ (by omega)
      | exact pf (oc4_f (fun z => hd z.1)) _ (by omega)
  refine ⟨fun hs34 => ?_, fun hs34_112 => ?_⟩
  · have ev : v = 6 := by omega
    subst ev
    refine q_aload_n hG rfl rfl ?_
    refine q_callV6 hG rfl rfl rfl (by assumption) (s_R_passes hm0 hR hW0 hq (fun p h6 J e8 e9 f => ?_) (fun h6 J r4 e4 f => ?_))
    · refine q_iret0 hG rfl rfl ?_
      first
      | exact pk _ (oc6_o h6) J r4 f
      | exact pr _ _ (oc6_r h6) J e8 e9 f
    · refine q_iret0 hG rfl rfl ?_
      first
      | exact pk _ (oc6_o h6) J r4 f
      | exact pr _ _ (oc6_r h6) J e8 e9 f
  refine ⟨fun hs34 => ?_, fun hs34_113 => ?_⟩
  · have ev : v = 4 := by omega
    subst ev
    have a9 := hab (by omega)
    have b9 := hbb (by omega)
    have c9 := hcb (by omega)
    have k9 := hkb rfl
    rw [show I (m + 5) ((t : Int) + 1).toNat = a from (congrArg (I (m + 5)) (by omega)).trans (ha0 (by omega)), show I (m + 5) ((t : Int) + 2).toNat = b from (congrArg (I (m + 5)) (by omega)).trans (hb0 (by omega)), show I (m + 5) ((t : Int) + 3).toNat = c from (congrArg (I (m + 5)) (by omega)).trans (hc0 (by omega))]
    refine q_aload_n hG rfl rfl ?_
    refine q_aload_n hG rfl rfl ?_
    refine q_getR hG rfl (by assumption) (by assumption) ?_
    refine q_iload_n hG rfl rfl ?_
    refine q_ialdv (v := kd) hG rfl (by assumption) ⟨by omega, by omega, by omega⟩ ((congrArg (I (m + 5)) et).trans hm1) ?_
    refine q_iload_n hG rfl rfl ?_
    refine q_iload_n hG rfl rfl ?_
    refine q_iload hG rfl rfl ?_
    refine q_callV6 hG rfl rfl rfl (by assumption) (s_R_binds hm0 hR hW0 hq ⟨⟨by omega, by omega⟩, ⟨by omega, by omega⟩, ⟨by omega, by omega⟩, ⟨by omega, by omega⟩⟩ (fun hd => ?_) (fun hd hcn => ?_) (fun hd hcn h6 J e8 e9 f => ?_) (fun hd hcn h6 p hf J e8 e9 f => ?_) (fun hd hcn h6 hf J r4 e4 f => ?_))
    · refine q_iret0 hG rfl rfl ?_
      first
      | exact pk _ (oc4_o ⟨hd, hcn⟩ h6 hf) J r4 f
      | exact pr _ _ (oc4_s ⟨hd, hcn⟩ h6 hf) J e8 e9 f
      | exact pr _ _ (oc4_l ⟨hd, hcn⟩ h6) J e8 e9 f
      | exact pf (oc4_f (fun z => hcn z.2)) _ (by omega)
      | exact pf (oc4_f (fun z => hd z.1)) _ (by omega)
    · refine q_iret0 hG rfl rfl ?_
      first
      | exact pk _ (oc4_o ⟨hd, hcn⟩ h6 hf) J r4 f
      | exact pr _ _ (oc4_s ⟨hd, hcn⟩ h6 hf) J e8 e9 f
      | exact pr _ _ (oc4_l ⟨hd, hcn⟩ h6) J e8 e9 f
      | exact pf (oc4_f (fun z => hcn z.2)) _ (by omega)
      | exact pf (oc4_f (fun z => hd z.1)) _ (by omega)
    · refine q_iret0 hG rfl rfl ?_
      first
      | exact pk _ (oc4_o ⟨hd, hcn⟩ h6 hf) J r4 f
      | exact pr _ _ (oc4_s ⟨hd, hcn⟩ h6 hf) J e8 e9 f
      | exact pr _ _ (oc4_l ⟨hd, hcn⟩ h6) J e8 e9 f
      | exact pf (oc4_f (fun z => hcn z.2)) _ (by omega)
      | exact pf (oc4_f (fun z => hd z.1)) _ (by omega)
    · refine q_iret0 hG rfl rfl ?_
      first
      | exact pk _ (oc4_o ⟨hd, hcn⟩ h6 hf) J r4 f
      | exact pr _ _ (oc4_s ⟨hd, hcn⟩ h6 hf) J e8 e9 f
      | exact pr _ _ (oc4_l ⟨hd, hcn⟩ h6) J e8 e9 f
      | exact pf (oc4_f (fun z => hcn z.2)) _ (by omega)
      | exact pf (oc4_f (fun z => hd z.1)) _ (by omega)
    · refine q_iret0 hG rfl rfl ?_
      first
      | exact pk _ (oc4_o ⟨hd, hcn⟩ h6 hf) J r4 f
      | exact pr _ _ (oc4_s ⟨hd, hcn⟩ h6 hf) J e8 e9 f
      | exact pr _ _ (oc4_l ⟨hd, hcn⟩ h6) J e8 e9 f
      | exact pf (oc4_f (fun z => hcn z.2)) _ (by omega)
      | exact pf (oc4_f (fun z => hd z.1)) _ (by omega)
  refine ⟨fun hs34 => ?_, fun hs34_114 => ?_⟩
  · have ev : v = 8 := by omega
    subst ev
    refine q_aload_n hG rfl rfl ?_
    refine q_callV6 hG rfl rfl rfl (by assumption) (s_R_resetsAll hm0 hR hW0 hq (fun J r4 e4 f => ?_))
    refine q_iret0 hG rfl rfl ?_
    exact pk _ oc8_o J r4 f
  refine ⟨fun hs34 => ?_, fun hs34_115 => ?_⟩
  · have ev : v = 7 := by omega
    subst ev
    refine q_aload_n hG rfl rfl ?_
    refine q_callV6 hG rfl rfl rfl (by assumption) (s_R_settlesAll hm0 hR hW0 hq (fun p h6 J e8 e9 f => ?_) (fun h6 J r4 e4 f => ?_))
    · refine q_iret0 hG rfl rfl ?_
      first
      | exact pk _ (oc7_o h6) J r4 f
      | exact pr _ _ (oc7_r h6) J e8 e9 f
    · refine q_iret0 hG rfl rfl ?_
      first
      | exact pk _ (oc7_o h6) J r4 f
      | exact pr _ _ (oc7_r h6) J e8 e9 f
  refine ⟨fun hs34 => ?_, fun hs34_116 => ?_⟩
  · have ev : v = 4 := by omega
    subst ev
    have a9 := hab (by omega)
    have b9 := hbb (by omega)
    have c9 := hcb (by omega)
    have k9 := hkb rfl
    rw [show I (m + 5) ((t : Int) + 1).toNat = a from (congrArg (I (m + 5)) (by omega)).trans (ha0 (by omega)), show I (m + 5) ((t : Int) + 2).toNat = b from (congrArg (I (m + 5)) (by omega)).trans (hb0 (by omega)), show I (m + 5) ((t : Int) + 3).toNat = c from (congrArg (I (m + 5)) (by omega)).trans (hc0 (by omega))]
    refine q_aload_n hG rfl rfl ?_
    refine q_aload_n hG rfl rfl ?_
    refine q_getR hG rfl (by assumption) (by assumption) ?_
    refine q_iload_n hG rfl rfl ?_
    refine q_ialdv (v := kd) hG rfl (by assumption) ⟨by omega, by omega, by omega⟩ ((congrArg (I (m + 5)) et).trans hm1) ?_
    refine q_iload_n hG rfl rfl ?_
    refine q_iload_n hG rfl rfl ?_
    refine q_iload hG rfl rfl ?_
    refine q_callV6 hG rfl rfl rfl (by assumption) (s_R_binds hm0 hR hW0 hq ⟨⟨by omega, by omega⟩, ⟨by omega, by omega⟩, ⟨by omega, by omega⟩, ⟨by omega, by omega⟩⟩ (fun hd => ?_) (fun hd hcn => ?_) (fun hd hcn h6 J e8 e9 f => ?_) (fun hd hcn h6 p hf J e8 e9 f => ?_) (fun hd hcn h6 hf J r4 e4 f => ?_))
    · refine q_iret0 hG rfl rfl ?_
      first
      | exact pk _ (oc4_o ⟨hd, hcn⟩ h6 hf) J r4 f
      | exact pr _ _ (oc4_s ⟨hd, hcn⟩ h6 hf) J e8 e9 f
      | exact pr _ _ (oc4_l ⟨hd, hcn⟩ h6) J e8 e9 f
      | exact pf (oc4_f (fun z => hcn z.2)) _ (by omega)
      | exact pf (oc4_f (fun z => hd z.1)) _ (by omega)
    · refine q_iret0 hG rfl rfl ?_
      first
      | exact pk _ (oc4_o ⟨hd, hcn⟩ h6 hf) J r4 f
      | exact pr _ _ (oc4_s ⟨hd, hcn⟩ h6 hf) J e8 e9 f
      | exact pr _ _ (oc4_l ⟨hd, hcn⟩ h6) J e8 e9 f
      | exact pf (oc4_f (fun z => hcn z.2)) _ (by omega)
      | exact pf (oc4_f (fun z => hd z.1)) _ (by omega)
    · refine q_iret0 hG rfl rfl ?_
      first
      | exact pk _ (oc4_o ⟨hd, hcn⟩ h6 hf) J r4 f
      | exact pr _ _ (oc4_s ⟨hd, hcn⟩ h6 hf) J e8 e9 f
      | exact pr _ _ (oc4_l ⟨hd, hcn⟩ h6) J e8 e9 f
      | exact pf (oc4_f (fun z => hcn z.2)) _ (by omega)
      | exact pf (oc4_f (fun z => hd z.1)) _ (by omega)
    · refine q_iret0 hG rfl rfl ?_
      first
      | exact pk _ (oc4_o ⟨hd, hcn⟩ h6 hf) J r4 f
      | exact pr _ _ (oc4_s ⟨hd, hcn⟩ h6 hf) J e8 e9 f
      | exact pr _ _ (oc4_l ⟨hd, hcn⟩ h6) J e8 e9 f
      | exact pf (oc4_f (fun z => hcn z.2)) _ (by omega)
      | exact pf (oc4_f (fun z => hd z.1)) _ (by omega)
    · refine q_iret0 hG rfl rfl ?_
      first
      | exact pk _ (oc4_o ⟨hd, hcn⟩ h6 hf) J r4 f
      | exact pr _ _ (oc4_s ⟨hd, hcn⟩ h6 hf) J e8 e9 f
      | exact pr _ _ (oc4_l ⟨hd, hcn⟩ h6) J e8 e9 f
      | exact pf (oc4_f (fun z => hcn z.2)) _ (by omega)
      | exact pf (oc4_f (fun z => hd z.1)) _ (by omega)
  refine ⟨fun hs34 => ?_, fun hs34_117 => ?_⟩
  · have ev : v = 5 := by omega
    subst ev
    have a9 := hab (by omega)
    rw [show I (m + 5) ((t : Int) + 1).toNat = a from (congrArg (I (m + 5)) (by omega)).trans (ha0 (by omega))]
    refine q_aload_n hG rfl rfl ?_
    refine q_iload_n hG rfl rfl ?_
    refine q_callV6 hG rfl rfl rfl (by assumption) (s_R_drops hm0 hR hW0 hq ⟨by omega, by omega⟩ (fun hf => ?_) (fun p hf J r4 e4 f => ?_))
    · refine q_iret0 hG rfl rfl ?_
      first
      | exact pk _ (oc5_o hf) J r4 f
      | exact pf (oc5_f hf) _ (by omega)
    · refine q_iret0 hG rfl rfl ?_
      first
      | exact pk _ (oc5_o hf) J r4 f
      | exact pf (oc5_f hf) _ (by omega)
  have ev : v = 4 := by omega
  subst ev
  have a9 := hab (by omega)
  have b9 := hbb (by omega)
  have c9 := hcb (by omega)
  have k9 := hkb rfl
  rw [show I (m + 5) ((t : Int) + 1).toNat = a from (congrArg (I (m + 5)) (by omega)).trans (ha0 (by omega)), show I (m + 5) ((t : Int) + 2).toNat = b from (congrArg (I (m + 5)) (by omega)).trans (hb0 (by omega)), show I (m + 5) ((t : Int) + 3).toNat = c from (congrArg (I (m + 5)) (by omega)).trans (hc0 (by omega))]
  refine q_aload_n hG rfl rfl ?_
  refine q_aload_n hG rfl rfl ?_
  refine q_getR hG rfl (by assumption) (by assumption) ?_
  refine q_iload_n hG rfl rfl ?_
  refine q_ialdv (v := kd) hG rfl (by assumption) ⟨by omega, by omega, by omega⟩ ((congrArg (I (m + 5)) et).trans hm1) ?_
  refine q_iload_n hG rfl rfl ?_
  refine q_iload_n hG rfl rfl ?_
  refine q_iload hG rfl rfl ?_
  refine q_callV6 hG rfl rfl rfl (by assumption) (s_R_binds hm0 hR hW0 hq ⟨⟨by omega, by omega⟩, ⟨by omega, by omega⟩, ⟨by omega, by omega⟩, ⟨by omega, by omega⟩⟩ (fun hd => ?_) (fun hd hcn => ?_) (fun hd hcn h6 J e8 e9 f => ?_) (fun hd hcn h6 p hf J e8 e9 f => ?_) (fun hd hcn h6 hf J r4 e4 f => ?_))
  · refine q_iret0 hG rfl rfl ?_
    first
    | exact pk _ (oc4_o ⟨hd, hcn⟩ h6 hf) J r4 f
    | exact pr _ _ (oc4_s ⟨hd, hcn⟩ h6 hf) J e8 e9 f
    | exact pr _ _ (oc4_l ⟨hd, hcn⟩ h6) J e8 e9 f
    | exact pf (oc4_f (fun z => hcn z.2)) _ (by omega)
    | exact pf (oc4_f (fun z => hd z.1)) _ (by omega)
  · refine q_iret0 hG rfl rfl ?_
    first
    | exact pk _ (oc4_o ⟨hd, hcn⟩ h6 hf) J r4 f
    | exact pr _ _ (oc4_s ⟨hd, hcn⟩ h6 hf) J e8 e9 f
    | exact pr _ _ (oc4_l ⟨hd, hcn⟩ h6) J e8 e9 f
    | exact pf (oc4_f (fun z => hcn z.2)) _ (by omega)
    | exact pf (oc4_f (fun z => hd z.1)) _ (by omega)
  · refine q_iret0 hG rfl rfl ?_
    first
    | exact pk _ (oc4_o ⟨hd, hcn⟩ h6 hf) J r4 f
    | exact pr _ _ (oc4_s ⟨hd, hcn⟩ h6 hf) J e8 e9 f
    | exact pr _ _ (oc4_l ⟨hd, hcn⟩ h6) J e8 e9 f
    | exact pf (oc4_f (fun z => hcn z.2)) _ (by omega)
    | exact pf (oc4_f (fun z => hd z.1)) _ (by omega)
  · refine q_iret0 hG rfl rfl ?_
    first
    | exact pk _ (oc4_o ⟨hd, hcn⟩ h6 hf) J r4 f
    | exact pr _ _ (oc4_s ⟨hd, hcn⟩ h6 hf) J e8 e9 f
    | exact pr _ _ (oc4_l ⟨hd, hcn⟩ h6) J e8 e9 f
    | exact pf (oc4_f (fun z => hcn z.2)) _ (by omega)
    | exact pf (oc4_f (fun z => hd z.1)) _ (by omega)
  · refine q_iret0 hG rfl rfl ?_
    first
    | exact pk _ (oc4_o ⟨hd, hcn⟩ h6 hf) J r4 f
    | exact pr _ _ (oc4_s ⟨hd, hcn⟩ h6 hf) J e8 e9 f
    | exact pr _ _ (oc4_l ⟨hd, hcn⟩ h6) J e8 e9 f
    | exact pf (oc4_f (fun z => hcn z.2)) _ (by omega)
    | exact pf (oc4_f (fun z => hd z.1)) _ (by omega)
