/-! the reference: constraints and passes, what is kept -/
theorem openR_E {R : RW} {D : Nat} (hD : D ≤ 6) (hz : ∀ k, k < 6 → D ≤ k → R (5 + 4 * k) = R (5 + 4 * k + 2) ∧ R (5 + 4 * k + 1) = R (5 + 4 * k + 3)) (j : Nat) : openR R j = if 5 ≤ j ∧ j < 5 + 4 * D ∧ 2 ≤ (j - 5) % 4 then R (j - 2) else R j := by
  by_cases h : 5 ≤ j ∧ j < 29 ∧ 2 ≤ (j - 5) % 4
  · by_cases h2 : j < 5 + 4 * D
    · unfold openR
      rw [if_pos h, if_pos ⟨h.1, h2, h.2.2⟩]
    · rw [if_neg (by omega)]
      obtain ⟨k, hk⟩ : ∃ k, k = (j - 5) / 4 := ⟨_, rfl⟩
      obtain ⟨e1, e2, e3, e4⟩ := openR_k R k (by omega)
      obtain ⟨z1, z2⟩ := hz k (by omega) (by omega)
      have hj : j = 5 + 4 * k + 2 ∨ j = 5 + 4 * k + 3 := by omega
      rcases hj with e | e
      · subst e
        rw [e3, z1]
      · subst e
        rw [e4, z2]
  · unfold openR
    rw [if_neg h, if_neg (by omega)]

theorem s_R_isKind {d : Nat} {B : HP} {I : IM} {Post : Out → HP → Prop} {v : Int} (hv : r32 v) (p1 : v = 60 ∨ v = 61 ∨ v = 35 → Post (.inl (some (.int (i3 1)))) (wI B I)) (p0 : ¬ (v = 60 ∨ v = 61 ∨ v = 35) → Post (.inl (some (.int (i3 0)))) (wI B I)) : Sp (d + 1) k_X9_isKind [.int (i3 (v))] (wI B I) Post := by
  refine Sp_intro md_X9_isKind rfl rfl (fun G hG => ?_)
  show G 0 [some (.int (i3 (v)))] [] (wI B I)
  refine q_iload_n hG rfl rfl ?_
  refine q_bipush (v := 60) hG rfl rfl ?_
  refine q_icmp_eq hG rfl (hv) ⟨by omega, by omega⟩ (fun hc3 => ?_) (fun hc3 => ?_)
  · refine q_iconst (v := 1) hG rfl rfl ?_
    refine q_goto hG rfl ?_
    refine q_iret5 hG rfl rfl (by decide) ?_
    exact p1 (by omega)
  · refine q_iload_n hG rfl rfl ?_
    refine q_bipush (v := 61) hG rfl rfl ?_
    refine q_icmp_eq hG rfl (hv) ⟨by omega, by omega⟩ (fun hc9 => ?_) (fun hc9 => ?_)
    · refine q_iconst (v := 1) hG rfl rfl ?_
      refine q_goto hG rfl ?_
      refine q_iret5 hG rfl rfl (by decide) ?_
      exact p1 (by omega)
    · refine q_iload_n hG rfl rfl ?_
      refine q_bipush (v := 35) hG rfl rfl ?_
      refine q_icmp_ne hG rfl (hv) ⟨by omega, by omega⟩ (fun hc15 => ?_) (fun hc15 => ?_)
      · refine q_iconst (v := 0) hG rfl rfl ?_
        refine q_iret5 hG rfl rfl (by decide) ?_
        exact p0 (by omega)
      · refine q_iconst (v := 1) hG rfl rfl ?_
        refine q_goto hG rfl ?_
        refine q_iret5 hG rfl rfl (by decide) ?_
        exact p1 (by omega)
theorem s_R_binds {d : Nat} {B : HP} {I : IM} {Post : Out → HP → Prop} {m : Nat} (hm : oM B m) {R : RW} {q : Int} (hR : RepM I m 0 R) (hW : WfR q R) (hq : q ≤ 2000000000) {kd f s g : Int} (hx : r32 kd ∧ r32 f ∧ r32 s ∧ r32 g) (p1 : ¬ ((0 ≤ f ∧ f < R 0) ∧ (0 ≤ s ∧ s < R 0)) → Post (.inl (some (.int (i3 1)))) (wI B I)) (p2 : ((0 ≤ f ∧ f < R 0) ∧ (0 ≤ s ∧ s < R 0)) → ¬ cnP kd f s g → Post (.inl (some (.int (i3 2)))) (wI B I)) (p3 : ((0 ≤ f ∧ f < R 0) ∧ (0 ≤ s ∧ s < R 0)) → cnP kd f s g → R 1 = 10 → ∀ J : IM, J m 8 = 2 → J m 9 = R 29 → mfr I J m → Post (.inl (some (.int (i3 3)))) (wI B J)) (p4 : ((0 ≤ f ∧ f < R 0) ∧ (0 ≤ s ∧ s < R 0)) → cnP kd f s g → R 1 < 10 → ∀ p : Nat, fst (sameR R kd f s g) (R 1).toNat p → ∀ J : IM, J m 8 = 3 → J m 9 = R (29 + 5 * p) → mfr I J m → Post (.inl (some (.int (i3 3)))) (wI B J)) (p0 : ((0 ≤ f ∧ f < R 0) ∧ (0 ≤ s ∧ s < R 0)) → cnP kd f s g → R 1 < 10 → (∀ k, k < (R 1).toNat → ¬ sameR R kd f s g k) → ∀ J : IM, RepM J m 0 (bndR R kd f s g) → J m 4 = R 2 → mfr I J m → Post (.inl (some (.int (i3 0)))) (wI B J)) : Sp (d + 3) k_X9_binds [.ref m, .int (i3 (kd)), .int (i3 (f)), .int (i3 (s)), .int (i3 (g))] (wI B I) Post := by
  refine Sp_intro md_X9_binds rfl rfl (fun G hG => ?_)
  have hm0 := hm
  obtain ⟨n1, n2, n3, n4, n5, n6, n7, n8, n9, n10, n11⟩ := hm
  have hR0 : ∀ j, j < 79 → I (m + 1) j = R j := hR.at
  have hW0 := hW
  obtain ⟨w0, w1, w2, w3, w4, wd, wc⟩ := hW
  have lp : ∀ (mz : Nat) (k : Nat), (R 1).toNat - k = mz → ((0 ≤ f ∧ f < R 0) ∧ (0 ≤ s ∧ s < R 0)) → cnP kd f s g → R 1 < 10 → k ≤ (R 1).toNat → (∀ z, z < k → ¬ sameR R kd f s g z) → G 79 [some (.ref m), some (.int (i3 kd)), some (.int (i3 f)), some (.int (i3 s)), some (.int (i3 g)), some (.int (i3 (k : Int)))] [] (wI B I) := by
    intro mz
    induction mz using Nat.strongRecOn with
    | ind mz ih =>
      intro k hme hbo hcp h10 hk hq0
      refine q_iload hG rfl rfl ?_
      refine q_aload_n hG rfl rfl ?_
      refine q_getR hG rfl (by assumption) (by assumption) ?_
      refine q_iconst (v := 1) hG rfl rfl ?_
      refine q_ialdv (v := R 1) hG rfl (by assumption) ⟨by omega, by omega, by omega⟩ (hR0 1 (by omega)) ?_
      refine q_icmp_ge hG rfl ⟨by omega, by omega⟩ ⟨by omega, by omega⟩ (fun hc87 => ?_) (fun hc87 => ?_)
      · refine q_bipush (v := 29) hG rfl rfl ?_
        refine q_iconst (v := 5) hG rfl rfl ?_
        refine q_aload_n hG rfl rfl ?_
        refine q_getR hG rfl (by assumption) (by assumption) ?_
        refine q_iconst (v := 1) hG rfl rfl ?_
        refine q_ialdv (v := R 1) hG rfl (by assumption) ⟨by omega, by omega, by omega⟩ (hR0 1 (by omega)) ?_
        refine q_imul hG rfl ?_
        refine q_iadd hG rfl ?_
        refine q_istore hG rfl rfl ?_
        refine q_aload_n hG rfl rfl ?_
        refine q_aload_n hG rfl rfl ?_
        refine q_getR hG rfl (by assumption) (by assumption) ?_
        refine q_iconst (v := 2) hG rfl rfl ?_
        refine q_ialdv (v := R 2) hG rfl (by assumption) ⟨by omega, by omega, by omega⟩ (hR0 2 (by omega)) ?_
        refine q_putI0 hG rfl (by assumption) ?_
        refine q_aload_n hG rfl rfl ?_
        refine q_getR hG rfl (by assumption) (by assumption) ?_
        refine q_iload hG rfl rfl ?_
        refine q_iconst (v := 0) hG rfl rfl ?_
        refine q_iadd hG rfl ?_
        refine q_aload_n hG rfl rfl ?_
        refine q_getI0v (v := R 2) hG rfl (by assumption) (by rw [st_same]) ?_
        refine q_iast hG rfl (by assumption) ⟨by omega, by omega, by omega⟩ ?_
        refine q_aload_n hG rfl rfl ?_
        refine q_getR hG rfl (by assumption) (by assumption) ?_
        refine q_iload hG rfl rfl ?_
        refine q_iconst (v := 1) hG rfl rfl ?_
        refine q_iadd hG rfl ?_
        refine q_iload_n hG rfl rfl ?_
        refine q_iast hG rfl (by assumption) ⟨by omega, by omega, by omega⟩ ?_
        refine q_aload_n hG rfl rfl ?_
        refine q_getR hG rfl (by assumption) (by assumption) ?_
        refine q_iload hG rfl rfl ?_
        refine q_iconst (v := 2) hG rfl rfl ?_
        refine q_iadd hG rfl ?_
        refine q_iload_n hG rfl rfl ?_
        refine q_iast hG rfl (by assumption) ⟨by omega, by omega, by omega⟩ ?_
        refine q_aload_n hG rfl rfl ?_
        refine q_getR hG rfl (by assumption) (by assumption) ?_
        refine q_iload hG rfl rfl ?_
        refine q_iconst (v := 3) hG rfl rfl ?_
        refine q_iadd hG rfl ?_
        refine q_iload_n hG rfl rfl ?_
        refine q_iast hG rfl (by assumption) ⟨by omega, by omega, by omega⟩ ?_
        refine q_aload_n hG rfl rfl ?_
        refine q_getR hG rfl (by assumption) (by assumption) ?_
        refine q_iload hG rfl rfl ?_
        refine q_iconst (v := 4) hG rfl rfl ?_
        refine q_iadd hG rfl ?_
        refine q_iload hG rfl rfl ?_
        refine q_iast hG rfl (by assumption) ⟨by omega, by omega, by omega⟩ ?_
        refine q_aload_n hG rfl rfl ?_
        refine q_getR hG rfl (by assumption) (by assumption) ?_
        refine q_iconst (v := 1) hG rfl rfl ?_
        refine q_dup2 hG rfl rfl rfl ?_
        refine q_ialdv (v := R 1) hG rfl (by assumption) ⟨by omega, by omega, by omega⟩ (by rw [st_ne _ _ (by omega), st_ne _ _ (by omega), st_ne _ _ (by omega), st_ne _ _ (by omega), st_ne _ _ (by omega), st_row _ _ (by omega)]; exact hR0 1 (by omega)) ?_
        refine q_iconst (v := 1) hG rfl rfl ?_
        refine q_iadd hG rfl ?_
        refine q_iast hG rfl (by assumption) ⟨by omega, by omega, by omega⟩ ?_
        refine q_aload_n hG rfl rfl ?_
        refine q_getR hG rfl (by assumption) (by assumption) ?_
        refine q_iconst (v := 2) hG rfl rfl ?_
        refine q_dup2 hG rfl rfl rfl ?_
        refine q_ialdv (v := R 2) hG rfl (by assumption) ⟨by omega, by omega, by omega⟩ (by rw [st_ne _ _ (by omega), st_ne _ _ (by omega), st_ne _ _ (by omega), st_ne _ _ (by omega), st_ne _ _ (by omega), st_ne _ _ (by omega), st_row _ _ (by omega)]; exact hR0 2 (by omega)) ?_
        refine q_iconst (v := 1) hG rfl rfl ?_
        refine q_iadd hG rfl ?_
        refine q_iast hG rfl (by assumption) ⟨by omega, by omega, by omega⟩ ?_
        refine q_iconst (v := 0) hG rfl rfl ?_
        refine q_iret0 hG rfl rfl ?_
        refine p0 hbo hcp h10 (fun z hz => hq0 z (by omega)) _ (RepM.of (fun j hj => ?_)) ?_ ((((((((mfr.fld (by omega)).trans (mfr.cell (by omega))).trans (mfr.cell (by omega))).trans (mfr.cell (by omega))).trans (mfr.cell (by omega))).trans (mfr.cell (by omega))).trans (mfr.cell (by omega))).trans (mfr.cell (by omega)))
        · have z := hR0 j hj
          have z1 := hR0 1 (by omega)
          have z2 := hR0 2 (by omega)
          have mm : ¬ m + 1 = m := by omega
          have i1 : (1 : Int).toNat = 1 := rfl
          have i2 : (2 : Int).toNat = 2 := rfl
          simp only [st, true_and, mm, false_and, if_false, i1, i2]
          unfold bndR
          by_cases e2 : j = 2
          · rw [if_pos e2, if_neg (by omega), if_pos e2]
          rw [if_neg e2, if_neg e2]
          by_cases e1 : j = 1
          · rw [if_pos e1, if_pos e1]
          rw [if_neg e1, if_neg e1]
          by_cases c4 : j = 29 + 5 * (R 1).toNat + 4
          · rw [if_pos (by omega), if_neg (by omega), if_neg (by omega), if_neg (by omega), if_neg (by omega), if_pos c4]
          rw [if_neg (by omega)]
          by_cases c3 : j = 29 + 5 * (R 1).toNat + 3
          · rw [if_pos (by omega), if_neg (by omega), if_neg (by omega), if_neg (by omega), if_pos c3]
          rw [if_neg (by omega)]
          by_cases c2 : j = 29 + 5 * (R 1).toNat + 2
          · rw [if_pos (by omega), if_neg (by omega), if_neg (by omega), if_pos c2]
          rw [if_neg (by omega)]
          by_cases c1 : j = 29 + 5 * (R 1).toNat + 1
          · rw [if_pos (by omega), if_neg (by omega), if_pos c1]
          rw [if_neg (by omega)]
          by_cases c0 : j = 29 + 5 * (R 1).toNat
          · rw [if_pos (by omega), if_pos c0]
          rw [if_neg (by omega), if_neg c0, if_neg c1, if_neg c2, if_neg c3, if_neg c4]
          exact z
        · rw [st_row _ _ (by omega), st_row _ _ (by omega), st_row _ _ (by omega), st_row _ _ (by omega), st_row _ _ (by omega), st_row _ _ (by omega), st_row _ _ (by omega), st_same]
      · refine q_aload_n hG rfl rfl ?_
        refine q_iload hG rfl rfl ?_
        refine q_iconst (v := 1) hG rfl rfl ?_
        have gg := wc k (by omega)
        refine q_callV6 hG rfl rfl rfl (by assumption) (s_R_cN (w := 1) hm0 (by omega) (by decide) ?_)
        rw [show cR I m k 1 = R (29 + 5 * k + 1) from hR0 _ (by omega)]
        refine q_iload_n hG rfl rfl ?_
        refine q_icmp_ne hG rfl ⟨by omega, by omega⟩ (hx.1) (fun hc98 => ?_) (fun hc98 => ?_)
        · refine q_iinc (c := 1) hG rfl rfl rfl rfl ?_
          refine q_goto hG rfl ?_
          refine ih _ (by omega) (k + 1) rfl hbo hcp h10 (by omega) (fun z hz => ?_)
          by_cases e : z = k
          · subst e
            unfold sameR
            omega
          · exact hq0 z (by omega)
        · refine q_aload_n hG rfl rfl ?_
          refine q_iload hG rfl rfl ?_
          refine q_iconst (v := 2) hG rfl rfl ?_
          refine q_callV6 hG rfl rfl rfl (by assumption) (s_R_cN (w := 2) hm0 (by omega) (by decide) ?_)
          rw [show cR I m k 2 = R (29 + 5 * k + 2) from hR0 _ (by omega)]
          refine q_iload_n hG rfl rfl ?_
          refine q_icmp_ne hG rfl ⟨by omega, by omega⟩ (hx.2.1) (fun hc109 => ?_) (fun hc109 => ?_)
          · refine q_iinc (c := 1) hG rfl rfl rfl rfl ?_
            refine q_goto hG rfl ?_
            refine ih _ (by omega) (k + 1) rfl hbo hcp h10 (by omega) (fun z hz => ?_)
            by_cases e : z = k
            · subst e
              unfold sameR
              omega
            · exact hq0 z (by omega)
          · refine q_aload_n hG rfl rfl ?_
            refine q_iload hG rfl rfl ?_
            refine q_iconst (v := 3) hG rfl rfl ?_
            refine q_callV6 hG rfl rfl rfl (by assumption) (s_R_cN (w := 3) hm0 (by omega) (by decide) ?_)
            rw [show cR I m k 3 = R (29 + 5 * k + 3) from hR0 _ (by omega)]
            refine q_iload_n hG rfl rfl ?_
            refine q_icmp_ne hG rfl ⟨by omega, by omega⟩ (hx.2.2.1) (fun hc120 => ?_) (fun hc120 => ?_)
            · refine q_iinc (c := 1) hG rfl rfl rfl rfl ?_
              refine q_goto hG rfl ?_
              refine ih _ (by omega) (k + 1) rfl hbo hcp h10 (by omega) (fun z hz => ?_)
              by_cases e : z = k
              · subst e
                unfold sameR
                omega
              · exact hq0 z (by omega)
            · refine q_aload_n hG rfl rfl ?_
              refine q_iload hG rfl rfl ?_
              refine q_iconst (v := 4) hG rfl rfl ?_
              refine q_callV6 hG rfl rfl rfl (by assumption) (s_R_cN (w := 4) hm0 (by omega) (by decide) ?_)
              rw [show cR I m k 4 = R (29 + 5 * k + 4) from hR0 _ (by omega)]
              refine q_iload hG rfl rfl ?_
              refine q_icmp_ne hG rfl ⟨by omega, by omega⟩ (hx.2.2.2) (fun hc132 => ?_) (fun hc132 => ?_)
              · refine q_iinc (c := 1) hG rfl rfl rfl rfl ?_
                refine q_goto hG rfl ?_
                refine ih _ (by omega) (k + 1) rfl hbo hcp h10 (by omega) (fun z hz => ?_)
                by_cases e : z = k
                · subst e
                  unfold sameR
                  omega
                · exact hq0 z (by omega)
              · refine q_aload_n hG rfl rfl ?_
                refine q_iconst (v := 3) hG rfl rfl ?_
                refine q_aload_n hG rfl rfl ?_
                refine q_iload hG rfl rfl ?_
                refine q_iconst (v := 0) hG rfl rfl ?_
                refine q_callV6 hG rfl rfl rfl (by assumption) (s_R_cN (x := k) (w := 0) hm0 (by omega) (by decide) ?_)
                rw [show cR I m k 0 = R (29 + 5 * k) from hR0 _ (by omega)]
                refine q_callV6 hG rfl rfl rfl (by assumption) (s_R_rejects hm0 ?_)
                refine q_iret0 hG rfl rfl ?_
                first
                | exact p3 ⟨hf, hs⟩ ⟨hk, by omega, by omega, by omega, by omega⟩ (by omega) _ (by rw [st_ne _ _ (by omega), st_same]) (by rw [st_same]) ((mfr.fld (by omega)).trans (mfr.fld (by omega)))
                | exact p4 hbo hcp h10 k ⟨by omega, ⟨by omega, by omega, by omega, by omega⟩, hq0⟩ _ (by rw [st_ne _ _ (by omega), st_same]) (by rw [st_same]) ((mfr.fld (by omega)).trans (mfr.fld (by omega)))
  show G 0 [some (.ref m), some (.int (i3 (kd))), some (.int (i3 (f))), some (.int (i3 (s))), some (.int (i3 (g))), none] [] (wI B I)
  refine q_aload_n hG rfl rfl ?_
  refine q_iload_n hG rfl rfl ?_
  refine q_callV6 hG rfl rfl rfl (by assumption) (s_R_isDoor hm0 hx.2.1 (by rw [hR0 0 (by omega)]; exact w0) (fun hf => ?_) (fun hf => ?_))
  · rw [hR0 0 (by omega)] at hf
    refine q_if_eq hG rfl ⟨by omega, by omega⟩ (fun q => absurd q (by decide)) (fun _ => ?_)
    refine q_aload_n hG rfl rfl ?_
    refine q_iload_n hG rfl rfl ?_
    refine q_callV6 hG rfl rfl rfl (by assumption) (s_R_isDoor hm0 hx.2.2.1 (by rw [hR0 0 (by omega)]; exact w0) (fun hs => ?_) (fun hs => ?_))
    · rw [hR0 0 (by omega)] at hs
      refine q_if_ne hG rfl ⟨by omega, by omega⟩ (fun _ => ?_) (fun q => absurd (by decide) q)
      refine q_iload_n hG rfl rfl ?_
      refine q_callS0 hG rfl rfl rfl (s_R_isKind hx.1 (fun hk => ?_) (fun hk => ?_))
      · refine q_if_eq hG rfl ⟨by omega, by omega⟩ (fun q => absurd q (by decide)) (fun _ => ?_)
        refine q_iload hG rfl rfl ?_
        refine q_iload_n hG rfl rfl ?_
        refine q_bipush (v := 35) hG rfl rfl ?_
        refine q_icmp_ne hG rfl (hx.1) ⟨by omega, by omega⟩ (fun hc30 => ?_) (fun hc30 => ?_)
        · refine q_iconst (v := 0) hG rfl rfl ?_
          refine q_bipush (v := 20) hG rfl rfl ?_
          refine q_callS0 hG rfl rfl rfl (s_R_in hx.2.2.2 ⟨by omega, by omega⟩ ⟨by omega, by omega⟩ (fun hi => ?_) (fun hi => ?_))
          · refine q_if_eq hG rfl ⟨by omega, by omega⟩ (fun q => absurd q (by decide)) (fun _ => ?_)
            refine q_iload_n hG rfl rfl ?_
            refine q_iload_n hG rfl rfl ?_
            refine q_icmp_ne hG rfl (hx.2.1) (hx.2.2.1) (fun hc48 => ?_) (fun hc48 => ?_)
            · refine q_aload_n hG rfl rfl ?_
              refine q_getR hG rfl (by assumption) (by assumption) ?_
              refine q_iconst (v := 1) hG rfl rfl ?_
              refine q_ialdv (v := R 1) hG rfl (by assumption) ⟨by omega, by omega, by omega⟩ (hR0 1 (by omega)) ?_
              refine q_bipush (v := 10) hG rfl rfl ?_
              refine q_icmp_ne hG rfl ⟨by omega, by omega⟩ ⟨by omega, by omega⟩ (fun hc61 => ?_) (fun hc61 => ?_)
              · refine q_iconst (v := 0) hG rfl rfl ?_
                refine q_istore hG rfl rfl ?_
                refine lp _ 0 rfl ⟨hf, hs⟩ ⟨hk, by omega, by omega, by omega, by omega⟩ (by omega) (by omega) (fun z hz => by omega)
              · refine q_aload_n hG rfl rfl ?_
                refine q_iconst (v := 2) hG rfl rfl ?_
                refine q_aload_n hG rfl rfl ?_
                refine q_iconst (v := 0) hG rfl rfl ?_
                refine q_iconst (v := 0) hG rfl rfl ?_
                refine q_callV6 hG rfl rfl rfl (by assumption) (s_R_cN (x := 0) (w := 0) hm0 (by omega) (by decide) ?_)
                rw [show cR I m 0 0 = R 29 from hR0 _ (by omega)]
                refine q_callV6 hG rfl rfl rfl (by assumption) (s_R_rejects hm0 ?_)
                refine q_iret0 hG rfl rfl ?_
                first
                | exact p3 ⟨hf, hs⟩ ⟨hk, by omega, by omega, by omega, by omega⟩ (by omega) _ (by rw [st_ne _ _ (by omega), st_same]) (by rw [st_same]) ((mfr.fld (by omega)).trans (mfr.fld (by omega)))
                | exact p4 hbo hcp h10 k ⟨by omega, ⟨by omega, by omega, by omega, by omega⟩, hq0⟩ _ (by rw [st_ne _ _ (by omega), st_same]) (by rw [st_same]) ((mfr.fld (by omega)).trans (mfr.fld (by omega)))
            · refine q_iconst (v := 2) hG rfl rfl ?_
              refine q_iret0 hG rfl rfl ?_
              refine p2 ⟨hf, hs⟩ (fun z => ?_)
              obtain ⟨z1, z2, z3, z4, z5⟩ := z
              omega
          · refine q_if_eq hG rfl ⟨by omega, by omega⟩ (fun _ => ?_) (fun q => absurd (by decide) q)
            refine q_iconst (v := 2) hG rfl rfl ?_
            refine q_iret0 hG rfl rfl ?_
            refine p2 ⟨hf, hs⟩ (fun z => ?_)
            obtain ⟨z1, z2, z3, z4, z5⟩ := z
            omega
        · refine q_iconst (v := 1) hG rfl rfl ?_
          refine q_goto hG rfl ?_
          refine q_bipush (v := 20) hG rfl rfl ?_
          refine q_callS0 hG rfl rfl rfl (s_R_in hx.2.2.2 ⟨by omega, by omega⟩ ⟨by omega, by omega⟩ (fun hi => ?_) (fun hi => ?_))
          · refine q_if_eq hG rfl ⟨by omega, by omega⟩ (fun q => absurd q (by decide)) (fun _ => ?_)
            refine q_iload_n hG rfl rfl ?_
            refine q_iload_n hG rfl rfl ?_
            refine q_icmp_ne hG rfl (hx.2.1) (hx.2.2.1) (fun hc48 => ?_) (fun hc48 => ?_)
            · refine q_aload_n hG rfl rfl ?_
              refine q_getR hG rfl (by assumption) (by assumption) ?_
              refine q_iconst (v := 1) hG rfl rfl ?_
              refine q_ialdv (v := R 1) hG rfl (by assumption) ⟨by omega, by omega, by omega⟩ (hR0 1 (by omega)) ?_
              refine q_bipush (v := 10) hG rfl rfl ?_
              refine q_icmp_ne hG rfl ⟨by omega, by omega⟩ ⟨by omega, by omega⟩ (fun hc61 => ?_) (fun hc61 => ?_)
              · refine q_iconst (v := 0) hG rfl rfl ?_
                refine q_istore hG rfl rfl ?_
                refine lp _ 0 rfl ⟨hf, hs⟩ ⟨hk, by omega, by omega, by omega, by omega⟩ (by omega) (by omega) (fun z hz => by omega)
              · refine q_aload_n hG rfl rfl ?_
                refine q_iconst (v := 2) hG rfl rfl ?_
                refine q_aload_n hG rfl rfl ?_
                refine q_iconst (v := 0) hG rfl rfl ?_
                refine q_iconst (v := 0) hG rfl rfl ?_
                refine q_callV6 hG rfl rfl rfl (by assumption) (s_R_cN (x := 0) (w := 0) hm0 (by omega) (by decide) ?_)
                rw [show cR I m 0 0 = R 29 from hR0 _ (by omega)]
                refine q_callV6 hG rfl rfl rfl (by assumption) (s_R_rejects hm0 ?_)
                refine q_iret0 hG rfl rfl ?_
                first
                | exact p3 ⟨hf, hs⟩ ⟨hk, by omega, by omega, by omega, by omega⟩ (by omega) _ (by rw [st_ne _ _ (by omega), st_same]) (by rw [st_same]) ((mfr.fld (by omega)).trans (mfr.fld (by omega)))
                | exact p4 hbo hcp h10 k ⟨by omega, ⟨by omega, by omega, by omega, by omega⟩, hq0⟩ _ (by rw [st_ne _ _ (by omega), st_same]) (by rw [st_same]) ((mfr.fld (by omega)).trans (mfr.fld (by omega)))
            · refine q_iconst (v := 2) hG rfl rfl ?_
              refine q_iret0 hG rfl rfl ?_
              refine p2 ⟨hf, hs⟩ (fun z => ?_)
              obtain ⟨z1, z2, z3, z4, z5⟩ := z
              omega
          · refine q_if_eq hG rfl ⟨by omega, by omega⟩ (fun _ => ?_) (fun q => absurd (by decide) q)
            refine q_iconst (v := 2) hG rfl rfl ?_
            refine q_iret0 hG rfl rfl ?_
            refine p2 ⟨hf, hs⟩ (fun z => ?_)
            obtain ⟨z1, z2, z3, z4, z5⟩ := z
            omega
      · refine q_if_eq hG rfl ⟨by omega, by omega⟩ (fun _ => ?_) (fun q => absurd (by decide) q)
        refine q_iconst (v := 2) hG rfl rfl ?_
        refine q_iret0 hG rfl rfl ?_
        refine p2 ⟨hf, hs⟩ (fun z => ?_)
        obtain ⟨z1, z2, z3, z4, z5⟩ := z
        omega
    · rw [hR0 0 (by omega)] at hs
      refine q_if_ne hG rfl ⟨by omega, by omega⟩ (fun q => absurd q (by decide)) (fun _ => ?_)
      refine q_iconst (v := 1) hG rfl rfl ?_
      refine q_iret0 hG rfl rfl ?_
      first
      | exact p1 (fun z => hf z.1)
      | exact p1 (fun z => hs z.2)
  · rw [hR0 0 (by omega)] at hf
    refine q_if_eq hG rfl ⟨by omega, by omega⟩ (fun _ => ?_) (fun q => absurd (by decide) q)
    refine q_iconst (v := 1) hG rfl rfl ?_
    refine q_iret0 hG rfl rfl ?_
    first
    | exact p1 (fun z => hf z.1)
    | exact p1 (fun z => hs z.2)
theorem s_R_drops {d : Nat} {B : HP} {I : IM} {Post : Out → HP → Prop} {m : Nat} (hm : oM B m) {R : RW} {q : Int} (hR : RepM I m 0 R) (hW : WfR q R) (hq : q ≤ 2000000000) {v : Int} (hv : r32 v) (p4 : (∀ k, k < (R 1).toNat → ¬ R (29 + 5 * k) = v) → Post (.inl (some (.int (i3 4)))) (wI B I)) (p0 : ∀ p : Nat, fst (fun k => R (29 + 5 * k) = v) (R 1).toNat p → ∀ J : IM, RepM J m 0 (drpR R p) → J m 4 = R 1 - 1 → mfr I J m → Post (.inl (some (.int (i3 0)))) (wI B J)) : Sp (d + 3) k_X9_drops [.ref m, .int (i3 (v))] (wI B I) Post := by
  refine Sp_intro md_X9_drops rfl rfl (fun G hG => ?_)
  have hm0 := hm
  obtain ⟨n1, n2, n3, n4, n5, n6, n7, n8, n9, n10, n11⟩ := hm
  have hR0 : ∀ j, j < 79 → I (m + 1) j = R j := hR.at
  have hW0 := hW
  obtain ⟨w0, w1, w2, w3, w4, wd, wc⟩ := hW
  have hc0 : ∀ k : Nat, (k : Int) < R 1 → cR I m k 0 = R (29 + 5 * k) := fun k hk => hR0 _ (by omega)
  have lq : ∀ (mz : Nat) (i : Nat) (p : Nat) (J : IM) (J2 : IM), 5 - i = mz → fst (fun k => R (29 + 5 * k) = v) (R 1).toNat p → i ≤ 5 → (∀ j, (j < 29 + 5 * p ∨ 29 + 5 * ((R 1).toNat - 1) ≤ j) → J (m + 1) j = I (m + 1) j) → (∀ j, 29 + 5 * p ≤ j → j < 29 + 5 * ((R 1).toNat - 1) → J (m + 1) j = I (m + 1) (j + 5)) → (∀ a, a ≠ m + 1 → J a = I a) → (∀ j, (j < 29 + 5 * ((R 1).toNat - 1) ∨ 29 + 5 * ((R 1).toNat - 1) + i ≤ j) → J2 (m + 1) j = J (m + 1) j) → (∀ j, 29 + 5 * ((R 1).toNat - 1) ≤ j → j < 29 + 5 * ((R 1).toNat - 1) + i → J2 (m + 1) j = 0) → (∀ a, a ≠ m + 1 → J2 a = J a) → G 65 [some (.ref m), some (.int (i3 v)), some (.int (i3 (p : Int))), some (.int (i3 (R 1 - 1))), some (.int (i3 (i : Int)))] [] (wI B J2) := by
    intro mz
    induction mz using Nat.strongRecOn with
    | ind mz ih =>
      intro i p J J2 hme hf hi hj1 hj2 hj3 hz1 hz2 hz3
      have hpl := hf.1
      have hj0 : J2 (m + 1) 0 = J (m + 1) 0 := hz1 0 (by omega)
      refine q_iload hG rfl rfl ?_
      refine q_iconst (v := 5) hG rfl rfl ?_
      refine q_icmp_ge hG rfl ⟨by omega, by omega⟩ ⟨by omega, by omega⟩ (fun hc68 => ?_) (fun hc68 => ?_)
      · refine q_aload_n hG rfl rfl ?_
        refine q_getR hG rfl (by assumption) (by assumption) ?_
        refine q_iconst (v := 1) hG rfl rfl ?_
        refine q_iload_n hG rfl rfl ?_
        refine q_iast hG rfl (by assumption) ⟨by omega, by omega, by omega⟩ ?_
        refine q_aload_n hG rfl rfl ?_
        refine q_callV6 hG rfl rfl rfl (by assumption) (s_R_resets hm0 (by rw [st_ne _ _ (by omega), hj0, hj1 0 (by omega), hR0 0 (by omega)]; exact w0) (fun J3 j1 j2 => ?_))
        refine q_aload_n hG rfl rfl ?_
        refine q_iload_n hG rfl rfl ?_
        refine q_putI0 hG rfl (by assumption) ?_
        refine q_iconst (v := 0) hG rfl rfl ?_
        refine q_iret0 hG rfl rfl ?_
        refine p0 p hf _ (RepM.of (fun j hj => ?_)) (st_same _ _ _ _) ⟨fun a u t => ?_, fun k u t x y z => ?_, fun j hj => ?_⟩
        · have eX : ∀ j, j < 79 → st J2 (m + 1) (Int.toNat 1) (R 1 - 1) (m + 1) j = (if j = 1 then R 1 - 1 else if 29 + 5 * p ≤ j ∧ j < 29 + 5 * ((R 1).toNat - 1) then R (j + 5) else if 29 + 5 * ((R 1).toNat - 1) ≤ j ∧ j < 29 + 5 * (R 1).toNat then 0 else R j) := fun j hj => by
            by_cases e : j = 1
            · rw [e, if_pos rfl]; exact st_same _ _ _ _
            · rw [st_ne _ _ (by omega), if_neg e]
              by_cases e2 : 29 + 5 * p ≤ j ∧ j < 29 + 5 * ((R 1).toNat - 1)
              · rw [if_pos e2, hz1 j (by omega), hj2 j e2.1 e2.2]; exact hR0 _ (by omega)
              · rw [if_neg e2]
                by_cases e3 : 29 + 5 * ((R 1).toNat - 1) ≤ j ∧ j < 29 + 5 * (R 1).toNat
                · rw [if_pos e3]; exact hz2 j e3.1 (by omega)
                · rw [if_neg e3, hz1 j (by omega), hj1 j (by omega)]; exact hR0 j hj
          have eD : (st J2 (m + 1) (Int.toNat 1) (R 1 - 1) (m + 1) 0).toNat = (R 0).toNat := by rw [st_ne _ _ (by omega), hj0, hj1 0 (by omega), hR0 0 (by omega)]
          rw [st_row _ _ (by omega), j1, eD]
          unfold drpR
          rw [openR_E (D := (R 0).toNat) (by omega) (fun k hk h0 => by have f := wd k hk; have f2 := f.2 (by omega); rw [if_neg (by omega), if_neg (by omega), if_neg (by omega), if_neg (by omega), if_neg (by omega), if_neg (by omega), if_neg (by omega), if_neg (by omega), if_neg (by omega), if_neg (by omega), if_neg (by omega), if_neg (by omega)]; omega)]
          by_cases h : 5 ≤ j ∧ j < 5 + 4 * (R 0).toNat ∧ 2 ≤ (j - 5) % 4
          · rw [if_pos h, if_pos h]; exact eX _ (by omega)
          · rw [if_neg h, if_neg h]; exact eX j hj
        · rw [st_row _ _ u, j2 a t, st_row _ _ t, hz3 a t, hj3 a t]
        · rw [st_ne _ _ (by omega), j2 m (by omega), st_row _ _ (by omega), hz3 m (by omega), hj3 m (by omega)]
        · rw [st_row _ _ (by omega), j1, if_neg (by rw [st_ne _ _ (by omega), hj0, hj1 0 (by omega), hR0 0 (by omega)]; omega), st_ne _ _ (by omega), hz1 j (by omega), hj1 j (by omega)]
      · refine q_aload_n hG rfl rfl ?_
        refine q_getR hG rfl (by assumption) (by assumption) ?_
        refine q_bipush (v := 29) hG rfl rfl ?_
        refine q_iconst (v := 5) hG rfl rfl ?_
        refine q_iload_n hG rfl rfl ?_
        refine q_imul hG rfl ?_
        refine q_iadd hG rfl ?_
        refine q_iload hG rfl rfl ?_
        refine q_iadd hG rfl ?_
        refine q_iconst (v := 0) hG rfl rfl ?_
        refine q_iast hG rfl (by assumption) ⟨by omega, by omega, by omega⟩ ?_
        refine q_iinc (c := 1) hG rfl rfl rfl rfl ?_
        refine q_goto hG rfl ?_
        refine ih _ (by omega) (i + 1) p J _ rfl hf (by omega) hj1 hj2 hj3 (fun j hj => ?_) (fun j h1 h2 => ?_) (fun a ha => by rw [st_row _ _ ha]; exact hz3 a ha)
        · rw [st_ne _ _ (by omega)]; exact hz1 j (by omega)
        · by_cases e : j = (29 + 5 * (R 1 - 1) + (i : Int)).toNat
          · rw [e, st_same]
          · rw [st_ne _ _ (by omega)]; exact hz2 j h1 (by omega)
  have lp : ∀ (mz : Nat) (i : Nat) (p : Nat) (J : IM), 5 * (R 1).toNat - i = mz → fst (fun k => R (29 + 5 * k) = v) (R 1).toNat p → 5 * p ≤ i ∧ i ≤ 5 * ((R 1).toNat - 1) → (∀ j, 29 + 5 * p ≤ j → j < 29 + i → J (m + 1) j = I (m + 1) (j + 5)) → (∀ j, (j < 29 + 5 * p ∨ 29 + i ≤ j) → J (m + 1) j = I (m + 1) j) → (∀ a, a ≠ m + 1 → J a = I a) → G 26 [some (.ref m), some (.int (i3 v)), some (.int (i3 (p : Int))), some (.int (i3 (R 1 - 1))), some (.int (i3 (i : Int)))] [] (wI B J) := by
    intro mz
    induction mz using Nat.strongRecOn with
    | ind mz ih =>
      intro i p J hme hf hi h1j h2j hj3
      have hpl := hf.1
      refine q_iload hG rfl rfl ?_
      refine q_iconst (v := 5) hG rfl rfl ?_
      refine q_iload_n hG rfl rfl ?_
      refine q_imul hG rfl ?_
      refine q_icmp_ge hG rfl ⟨by omega, by omega⟩ ⟨by omega, by omega⟩ (fun hc31 => ?_) (fun hc31 => ?_)
      · refine q_iconst (v := 0) hG rfl rfl ?_
        refine q_istore hG rfl rfl ?_
        refine lq _ 0 p J J rfl hf (by omega) (fun j hj => ?_) (fun j h1 h2 => h1j j h1 (by omega)) hj3 (fun _ _ => rfl) (fun j h1 h2 => by omega) (fun _ _ => rfl)
        exact h2j j (by omega)
      · refine q_aload_n hG rfl rfl ?_
        refine q_getR hG rfl (by assumption) (by assumption) ?_
        refine q_bipush (v := 29) hG rfl rfl ?_
        refine q_iload hG rfl rfl ?_
        refine q_iadd hG rfl ?_
        refine q_aload_n hG rfl rfl ?_
        refine q_getR hG rfl (by assumption) (by assumption) ?_
        refine q_bipush (v := 29) hG rfl rfl ?_
        refine q_iload hG rfl rfl ?_
        refine q_iadd hG rfl ?_
        refine q_iconst (v := 5) hG rfl rfl ?_
        refine q_iadd hG rfl ?_
        refine q_ialdv (v := J (m + 1) (29 + i + 5)) hG rfl (by assumption) ⟨by omega, by omega, by omega⟩ (by congr 1 <;> omega) ?_
        refine q_iast hG rfl (by assumption) ⟨by omega, by omega, by omega⟩ ?_
        refine q_iinc (c := 1) hG rfl rfl rfl rfl ?_
        refine q_goto hG rfl ?_
        have ei : (29 + (i : Int)).toNat = 29 + i := by omega
        refine ih _ (by omega) (i + 1) p _ rfl hf (by omega) (fun j h1 h2 => ?_) (fun j hj => ?_) (fun a ha => by rw [st_row _ _ ha]; exact hj3 a ha)
        · rw [ei]
          by_cases e : j = 29 + i
          · rw [e, st_same, h2j _ (by omega)]
          · rw [st_ne _ _ (by omega)]; exact h1j j h1 (by omega)
        · rw [ei, st_ne _ _ (by omega)]; exact h2j j (by omega)
  show G 0 [some (.ref m), some (.int (i3 (v))), none, none, none] [] (wI B I)
  refine q_aload_n hG rfl rfl ?_
  refine q_iload_n hG rfl rfl ?_
  refine q_callV6 hG rfl rfl rfl (by assumption) (s_R_rule hm0 hv (by rw [hR0 1 (by omega)]; exact w1) (fun k hk => by rw [hR0 1 (by omega)] at hk; rw [hc0 k hk]; have g := (wc k hk).1; exact ⟨by omega, by omega⟩) (fun p hf => ?_) (fun hf => ?_))
  · rw [hR0 1 (by omega)] at hf
    have hf := fst_c (Q := fun k => R (29 + 5 * k) = v) (fun k hk => by rw [hc0 k (by omega)]) hf
    have hpl := hf.1
    refine q_istore_n hG rfl rfl ?_
    refine q_iload_n hG rfl rfl ?_
    refine q_if_ge hG rfl ⟨by omega, by omega⟩ (fun hc7 => ?_) (fun hc7 => absurd (by omega) hc7)
    refine q_aload_n hG rfl rfl ?_
    refine q_getR hG rfl (by assumption) (by assumption) ?_
    refine q_iconst (v := 1) hG rfl rfl ?_
    refine q_ialdv (v := R 1) hG rfl (by assumption) ⟨by omega, by omega, by omega⟩ (hR0 1 (by omega)) ?_
    refine q_iconst (v := 1) hG rfl rfl ?_
    refine q_isub hG rfl ?_
    refine q_istore_n hG rfl rfl ?_
    refine q_iconst (v := 5) hG rfl rfl ?_
    refine q_iload_n hG rfl rfl ?_
    refine q_imul hG rfl ?_
    refine q_istore hG rfl rfl ?_
    refine Eq.mp ?_ (lp _ (5 * p) p I rfl hf (by omega) (fun j h1 h2 => by omega) (fun _ _ => rfl) (fun _ _ => rfl))
    rfl
  · rw [hR0 1 (by omega)] at hf
    refine q_istore_n hG rfl rfl ?_
    refine q_iload_n hG rfl rfl ?_
    refine q_if_ge hG rfl ⟨by omega, by omega⟩ (fun q => absurd q (by decide)) (fun _ => ?_)
    refine q_iconst (v := 4) hG rfl rfl ?_
    refine q_iret0 hG rfl rfl ?_
    exact p4 (fun k hk z => hf k hk (by rw [hc0 k (by omega)]; exact z))
