/-! the reference: its changes -/
def mfr (I J : IM) (m : Nat) : Prop := (∀ a, a ≠ m → a ≠ m + 1 → J a = I a) ∧ (∀ k, k ≠ 4 → k ≠ 8 → k ≠ 9 → k ≠ 10 → k ≠ 11 → J m k = I m k) ∧ ∀ j, (79 ≤ j ∧ j < 869 ∨ 948 ≤ j) → J (m + 1) j = I (m + 1) j
theorem mfr.refl (I : IM) (m : Nat) : mfr I I m := ⟨fun _ _ _ => rfl, fun _ _ _ _ _ _ => rfl, fun _ _ => rfl⟩
theorem mfr.trans {I J K : IM} {m : Nat} (h : mfr I J m) (h2 : mfr J K m) : mfr I K m := ⟨fun a p q => (h2.1 a p q).trans (h.1 a p q), fun k p q r s t => (h2.2.1 k p q r s t).trans (h.2.1 k p q r s t), fun j p => (h2.2.2 j p).trans (h.2.2 j p)⟩
theorem mfr.fld {I : IM} {m k : Nat} {v : Int} (hk : k = 4 ∨ k = 8 ∨ k = 9 ∨ k = 10 ∨ k = 11) : mfr I (st I m k v) m := ⟨fun a p q => st_row _ _ p, fun j p q r s t => st_ne _ _ (by omega), fun j p => by rw [st_row _ _ (by omega)]⟩
theorem mfr.cell {I : IM} {m j : Nat} {v : Int} (hj : j < 79 ∨ 869 ≤ j ∧ j < 948) : mfr I (st I (m + 1) j v) m := ⟨fun a p q => st_row _ _ q, fun k p q r s t => by rw [st_row _ _ (by omega)], fun k p => st_ne _ _ (by omega)⟩
theorem rf2.m {I J : IM} {m : Nat} (h : rf2 I J m) : mfr I J m := ⟨h.1, fun k _ _ _ p q => h.2.1 k p q, fun j p => h.2.2 j (by omega)⟩
theorem rfr.m {I J : IM} {m : Nat} (h : rfr I J m) : mfr I J m := h.two.m
theorem RepM.at {I : IM} {m : Nat} {R : RW} (h : RepM I m 0 R) (j : Nat) (hj : j < 79) : I (m + 1) j = R j := by
  have := h j hj
  rw [show 79 * 0 + j = j by omega] at this
  exact this
theorem RepM.of {I : IM} {m : Nat} {R : RW} (h : ∀ j, j < 79 → I (m + 1) j = R j) : RepM I m 0 R := fun j hj => by
  rw [show 79 * 0 + j = j by omega]
  exact h j hj
theorem df_c (u v : Int) : df u v = df v u := by unfold df; exact ifc (by omega) _ _
theorem openR_D {q : Int} {R : RW} (hW : WfR q R) (j : Nat) : openR R j = if 5 ≤ j ∧ j < 5 + 4 * (R 0).toNat ∧ 2 ≤ (j - 5) % 4 then R (j - 2) else R j := by
  have h0 := hW.1
  by_cases h : 5 ≤ j ∧ j < 29 ∧ 2 ≤ (j - 5) % 4
  · by_cases h2 : j < 5 + 4 * (R 0).toNat
    · unfold openR
      rw [if_pos h, if_pos ⟨h.1, h2, h.2.2⟩]
    · rw [if_neg (by omega)]
      obtain ⟨k, hk⟩ : ∃ k, k = (j - 5) / 4 := ⟨_, rfl⟩
      obtain ⟨e1, e2, e3, e4⟩ := openR_k R k (by omega)
      have f := hW.2.2.2.2.2.1 k (by omega)
      have f2 := f.2 (by omega)
      have hj : j = 5 + 4 * k + 2 ∨ j = 5 + 4 * k + 3 := by omega
      rcases hj with e | e
      · subst e
        rw [e3]
        omega
      · subst e
        rw [e4]
        omega
  · unfold openR
    rw [if_neg h, if_neg (by omega)]

theorem s_R_resets {d : Nat} {B : HP} {I : IM} {Post : Out → HP → Prop} {m : Nat} (hm : oM B m) (hn : 0 ≤ I (m + 1) 0 ∧ I (m + 1) 0 ≤ 6) (hp : ∀ J : IM, (∀ j, J (m + 1) j = if 5 ≤ j ∧ j < 5 + 4 * (I (m + 1) 0).toNat ∧ 2 ≤ (j - 5) % 4 then I (m + 1) (j - 2) else I (m + 1) j) → (∀ a, a ≠ m + 1 → J a = I a) → Post (.inl none) (wI B J)) : Sp (d + 2) k_X9_resets [.ref m] (wI B I) Post := by
  refine Sp_intro md_X9_resets rfl rfl (fun G hG => ?_)
  have hm0 := hm
  obtain ⟨n1, n2, n3, n4, n5, n6, n7, n8, n9, n10, n11⟩ := hm
  have lp : ∀ (mz : Nat) (k : Nat) (J : IM), (I (m + 1) 0).toNat - k = mz → k ≤ (I (m + 1) 0).toNat → (∀ j, J (m + 1) j = if 5 ≤ j ∧ j < 5 + 4 * k ∧ 2 ≤ (j - 5) % 4 then I (m + 1) (j - 2) else I (m + 1) j) → (∀ a, a ≠ m + 1 → J a = I a) → G 2 [some (.ref m), some (.int (i3 (k : Int)))] [] (wI B J) := by
    intro mz
    induction mz using Nat.strongRecOn with
    | ind mz ih =>
      intro k J hme hk h1 h2
      refine q_iload_n hG rfl rfl ?_
      refine q_aload_n hG rfl rfl ?_
      refine q_getR hG rfl (by assumption) (by assumption) ?_
      refine q_iconst (v := 0) hG rfl rfl ?_
      refine q_ialdv (v := I (m + 1) 0) hG rfl (by assumption) ⟨by omega, by omega, by omega⟩ (by show J (m + 1) 0 = _; rw [h1, if_neg (by omega)]) ?_
      refine q_icmp_ge hG rfl ⟨by omega, by omega⟩ ⟨by omega, by omega⟩ (fun hc9 => ?_) (fun hc9 => ?_)
      · refine q_vret hG rfl ?_
        refine hp J (fun j => ?_) h2
        rw [h1]
        exact ifc (by omega) _ _
      · refine q_aload_n hG rfl rfl ?_
        refine q_iload_n hG rfl rfl ?_
        refine q_iconst (v := 2) hG rfl rfl ?_
        refine q_aload_n hG rfl rfl ?_
        refine q_iload_n hG rfl rfl ?_
        refine q_iconst (v := 0) hG rfl rfl ?_
        refine q_callV6 hG rfl rfl rfl (by assumption) (s_R_dN (w := 0) hm0 (by omega) (by decide) ?_)
        refine q_callV6 hG rfl rfl rfl (by assumption) (s_R_set (w := 2) hm0 ⟨by omega, by omega⟩ (by decide) ?_)
        refine q_aload_n hG rfl rfl ?_
        refine q_iload_n hG rfl rfl ?_
        refine q_iconst (v := 3) hG rfl rfl ?_
        refine q_aload_n hG rfl rfl ?_
        refine q_iload_n hG rfl rfl ?_
        refine q_iconst (v := 1) hG rfl rfl ?_
        refine q_callV6 hG rfl rfl rfl (by assumption) (s_R_dN (w := 1) hm0 (by omega) (by decide) ?_)
        refine q_callV6 hG rfl rfl rfl (by assumption) (s_R_set (w := 3) hm0 ⟨by omega, by omega⟩ (by decide) ?_)
        refine q_iinc (c := 1) hG rfl rfl rfl rfl ?_
        refine q_goto hG rfl ?_
        refine ih _ (by omega) (k + 1) _ rfl (by omega) (fun j => ?_) (fun a ha => by rw [st_row _ _ ha, st_row _ _ ha]; exact h2 a ha)
        have q1 : dR J m k 0 = I (m + 1) (5 + 4 * k) := by unfold dR; rw [h1, if_neg (by omega)]; congr 1
        have q2 : dR (st J (m + 1) (5 + 4 * (k : Int).toNat + 2) (dR J m k 0)) m k 1 = I (m + 1) (5 + 4 * k + 1) := by unfold dR; rw [st_ne _ _ (by omega), h1, if_neg (by omega)]
        rw [q2, q1]
        show (if m + 1 = m + 1 ∧ j = 5 + 4 * k + 3 then I (m + 1) (5 + 4 * k + 1) else if m + 1 = m + 1 ∧ j = 5 + 4 * k + 2 then I (m + 1) (5 + 4 * k) else J (m + 1) j) = _
        by_cases e1 : j = 5 + 4 * k + 3
        · rw [if_pos ⟨rfl, e1⟩, if_pos (by omega)]; congr 1; omega
        · rw [if_neg (by omega)]
          by_cases e2 : j = 5 + 4 * k + 2
          · rw [if_pos ⟨rfl, e2⟩, if_pos (by omega)]; congr 1; omega
          · rw [if_neg (by omega), h1]
            exact ifc (by omega) _ _
  show G 0 [some (.ref m), none] [] (wI B I)
  refine q_iconst (v := 0) hG rfl rfl ?_
  refine q_istore_n hG rfl rfl ?_
  exact lp _ 0 I rfl (by omega) (fun j => by rw [if_neg (by omega)]) (fun _ _ => rfl)
theorem s_R_unlike {d : Nat} {B : HP} {I : IM} {Post : Out → HP → Prop} {m : Nat} (hm : oM B m) (hn : 0 ≤ I (m + 1) 0 ∧ I (m + 1) 0 ≤ 6) (hr : ∀ k, k < 6 → r32 (dR I m k 2) ∧ r32 (dR I m k 3) ∧ r32 (I (m + 1) (874 + 4 * k + 2)) ∧ r32 (I (m + 1) (874 + 4 * k + 3))) (hp : Post (.inl (some (.int (i3 (sm (fun k => df (dR I m k 2) (I (m + 1) (874 + 4 * k + 2)) + df (dR I m k 3) (I (m + 1) (874 + 4 * k + 3))) (I (m + 1) 0).toNat))))) (wI B I)) : Sp (d + 2) k_X9_unlike [.ref m] (wI B I) Post := by
  refine Sp_intro md_X9_unlike rfl rfl (fun G hG => ?_)
  have hm0 := hm
  obtain ⟨n1, n2, n3, n4, n5, n6, n7, n8, n9, n10, n11⟩ := hm
  have lp : ∀ (mz : Nat) (k : Nat), (I (m + 1) 0).toNat - k = mz → k ≤ (I (m + 1) 0).toNat → G 4 [some (.ref m), some (.int (i3 (sm (fun k => df (dR I m k 2) (I (m + 1) (874 + 4 * k + 2)) + df (dR I m k 3) (I (m + 1) (874 + 4 * k + 3))) k))), some (.int (i3 (k : Int)))] [] (wI B I) := by
    intro mz
    induction mz using Nat.strongRecOn with
    | ind mz ih =>
      intro k hme hk
      refine q_iload_n hG rfl rfl ?_
      refine q_aload_n hG rfl rfl ?_
      refine q_getR hG rfl (by assumption) (by assumption) ?_
      refine q_iconst (v := 0) hG rfl rfl ?_
      refine q_ialdv (v := I (m + 1) 0) hG rfl (by assumption) ⟨by omega, by omega, by omega⟩ rfl ?_
      refine q_icmp_ge hG rfl ⟨by omega, by omega⟩ ⟨by omega, by omega⟩ (fun hc11 => ?_) (fun hc11 => ?_)
      · refine q_iload_n hG rfl rfl ?_
        refine q_iret0 hG rfl rfl ?_
        rw [show (I (m + 1) 0).toNat = k by omega] at hp
        exact hp
      · refine q_iload_n hG rfl rfl ?_
        refine q_aload_n hG rfl rfl ?_
        refine q_iload_n hG rfl rfl ?_
        refine q_iconst (v := 2) hG rfl rfl ?_
        refine q_callV6 hG rfl rfl rfl (by assumption) (s_R_dN (w := 2) hm0 (by omega) (by decide) ?_)
        refine q_aload_n hG rfl rfl ?_
        refine q_getR hG rfl (by assumption) (by assumption) ?_
        refine q_sipush (v := 874) hG rfl rfl ?_
        refine q_iconst (v := 4) hG rfl rfl ?_
        refine q_iload_n hG rfl rfl ?_
        refine q_imul hG rfl ?_
        refine q_iadd hG rfl ?_
        refine q_iconst (v := 2) hG rfl rfl ?_
        refine q_iadd hG rfl ?_
        refine q_ialdv (v := I (m + 1) (874 + 4 * k + 2)) hG rfl (by assumption) ⟨by omega, by omega, by omega⟩ (by congr 1 <;> omega) ?_
        refine q_icmp_eq hG rfl ((hr k (by omega)).1) ((hr k (by omega)).2.2.1) (fun hc35 => ?_) (fun hc35 => ?_)
        · refine q_iconst (v := 0) hG rfl rfl ?_
          refine q_iadd hG rfl ?_
          refine q_istore_n hG rfl rfl ?_
          refine q_iload_n hG rfl rfl ?_
          refine q_aload_n hG rfl rfl ?_
          refine q_iload_n hG rfl rfl ?_
          refine q_iconst (v := 3) hG rfl rfl ?_
          refine q_callV6 hG rfl rfl rfl (by assumption) (s_R_dN (w := 3) hm0 (by omega) (by decide) ?_)
          refine q_aload_n hG rfl rfl ?_
          refine q_getR hG rfl (by assumption) (by assumption) ?_
          refine q_sipush (v := 874) hG rfl rfl ?_
          refine q_iconst (v := 4) hG rfl rfl ?_
          refine q_iload_n hG rfl rfl ?_
          refine q_imul hG rfl ?_
          refine q_iadd hG rfl ?_
          refine q_iconst (v := 3) hG rfl rfl ?_
          refine q_iadd hG rfl ?_
          refine q_ialdv (v := I (m + 1) (874 + 4 * k + 3)) hG rfl (by assumption) ⟨by omega, by omega, by omega⟩ (by congr 1 <;> omega) ?_
          refine q_icmp_eq hG rfl ((hr k (by omega)).2.1) ((hr k (by omega)).2.2.2) (fun hc66 => ?_) (fun hc66 => ?_)
          · refine q_iconst (v := 0) hG rfl rfl ?_
            refine q_iadd hG rfl ?_
            refine q_istore_n hG rfl rfl ?_
            refine q_iinc (c := 1) hG rfl rfl rfl rfl ?_
            refine q_goto hG rfl ?_
            refine Eq.mp ?_ (ih _ (by omega) (k + 1) rfl (by omega))
            congr 1
            show [_, some (Value.int (i3 (sm _ k + (df (dR I m k 2) (I (m + 1) (874 + 4 * k + 2)) + df (dR I m k 3) (I (m + 1) (874 + 4 * k + 3)))))), _] = [_, _, _]
            rw [← Int.add_assoc]
            first
            | rw [df_eq (by omega), df_eq (by omega)]; rfl
            | rw [df_eq (by omega), df_ne (by omega)]; rfl
            | rw [df_ne (by omega), df_eq (by omega)]; rfl
            | rw [df_ne (by omega), df_ne (by omega)]; rfl
          · refine q_iconst (v := 1) hG rfl rfl ?_
            refine q_goto hG rfl ?_
            refine q_iadd hG rfl ?_
            refine q_istore_n hG rfl rfl ?_
            refine q_iinc (c := 1) hG rfl rfl rfl rfl ?_
            refine q_goto hG rfl ?_
            refine Eq.mp ?_ (ih _ (by omega) (k + 1) rfl (by omega))
            congr 1
            show [_, some (Value.int (i3 (sm _ k + (df (dR I m k 2) (I (m + 1) (874 + 4 * k + 2)) + df (dR I m k 3) (I (m + 1) (874 + 4 * k + 3)))))), _] = [_, _, _]
            rw [← Int.add_assoc]
            first
            | rw [df_eq (by omega), df_eq (by omega)]; rfl
            | rw [df_eq (by omega), df_ne (by omega)]; rfl
            | rw [df_ne (by omega), df_eq (by omega)]; rfl
            | rw [df_ne (by omega), df_ne (by omega)]; rfl
        · refine q_iconst (v := 1) hG rfl rfl ?_
          refine q_goto hG rfl ?_
          refine q_iadd hG rfl ?_
          refine q_istore_n hG rfl rfl ?_
          refine q_iload_n hG rfl rfl ?_
          refine q_aload_n hG rfl rfl ?_
          refine q_iload_n hG rfl rfl ?_
          refine q_iconst (v := 3) hG rfl rfl ?_
          refine q_callV6 hG rfl rfl rfl (by assumption) (s_R_dN (w := 3) hm0 (by omega) (by decide) ?_)
          refine q_aload_n hG rfl rfl ?_
          refine q_getR hG rfl (by assumption) (by assumption) ?_
          refine q_sipush (v := 874) hG rfl rfl ?_
          refine q_iconst (v := 4) hG rfl rfl ?_
          refine q_iload_n hG rfl rfl ?_
          refine q_imul hG rfl ?_
          refine q_iadd hG rfl ?_
          refine q_iconst (v := 3) hG rfl rfl ?_
          refine q_iadd hG rfl ?_
          refine q_ialdv (v := I (m + 1) (874 + 4 * k + 3)) hG rfl (by assumption) ⟨by omega, by omega, by omega⟩ (by congr 1 <;> omega) ?_
          refine q_icmp_eq hG rfl ((hr k (by omega)).2.1) ((hr k (by omega)).2.2.2) (fun hc66 => ?_) (fun hc66 => ?_)
          · refine q_iconst (v := 0) hG rfl rfl ?_
            refine q_iadd hG rfl ?_
            refine q_istore_n hG rfl rfl ?_
            refine q_iinc (c := 1) hG rfl rfl rfl rfl ?_
            refine q_goto hG rfl ?_
            refine Eq.mp ?_ (ih _ (by omega) (k + 1) rfl (by omega))
            congr 1
            show [_, some (Value.int (i3 (sm _ k + (df (dR I m k 2) (I (m + 1) (874 + 4 * k + 2)) + df (dR I m k 3) (I (m + 1) (874 + 4 * k + 3)))))), _] = [_, _, _]
            rw [← Int.add_assoc]
            first
            | rw [df_eq (by omega), df_eq (by omega)]; rfl
            | rw [df_eq (by omega), df_ne (by omega)]; rfl
            | rw [df_ne (by omega), df_eq (by omega)]; rfl
            | rw [df_ne (by omega), df_ne (by omega)]; rfl
          · refine q_iconst (v := 1) hG rfl rfl ?_
            refine q_goto hG rfl ?_
            refine q_iadd hG rfl ?_
            refine q_istore_n hG rfl rfl ?_
            refine q_iinc (c := 1) hG rfl rfl rfl rfl ?_
            refine q_goto hG rfl ?_
            refine Eq.mp ?_ (ih _ (by omega) (k + 1) rfl (by omega))
            congr 1
            show [_, some (Value.int (i3 (sm _ k + (df (dR I m k 2) (I (m + 1) (874 + 4 * k + 2)) + df (dR I m k 3) (I (m + 1) (874 + 4 * k + 3)))))), _] = [_, _, _]
            rw [← Int.add_assoc]
            first
            | rw [df_eq (by omega), df_eq (by omega)]; rfl
            | rw [df_eq (by omega), df_ne (by omega)]; rfl
            | rw [df_ne (by omega), df_eq (by omega)]; rfl
            | rw [df_ne (by omega), df_ne (by omega)]; rfl
  show G 0 [some (.ref m), none, none] [] (wI B I)
  refine q_iconst (v := 0) hG rfl rfl ?_
  refine q_istore_n hG rfl rfl ?_
  refine q_iconst (v := 0) hG rfl rfl ?_
  refine q_istore_n hG rfl rfl ?_
  exact lp _ 0 rfl (by omega)
theorem s_R_adds {d : Nat} {B : HP} {I : IM} {Post : Out → HP → Prop} {m : Nat} (hm : oM B m) {R : RW} {q : Int} (hR : RepM I m 0 R) (hW : WfR q R) (hq : q ≤ 2000000000) {lo hi : Int} (hl : r32 lo) (hh : r32 hi) (p2 : ¬ rngP lo hi → Post (.inl (some (.int (i3 2)))) (wI B I)) (p3 : rngP lo hi → R 0 = 6 → ∀ J : IM, J m 8 = 1 → J m 9 = 6 → mfr I J m → Post (.inl (some (.int (i3 3)))) (wI B J)) (p0 : rngP lo hi → R 0 < 6 → ∀ J : IM, RepM J m 0 (addR R lo hi) → J m 4 = R 0 → mfr I J m → Post (.inl (some (.int (i3 0)))) (wI B J)) : Sp (d + 3) k_X9_adds [.ref m, .int (i3 (lo)), .int (i3 (hi))] (wI B I) Post := by
  refine Sp_intro md_X9_adds rfl rfl (fun G hG => ?_)
  have hm0 := hm
  obtain ⟨n1, n2, n3, n4, n5, n6, n7, n8, n9, n10, n11⟩ := hm
  have hR0 : ∀ j, j < 79 → I (m + 1) j = R j := hR.at
  have hW0 := hW
  obtain ⟨w0, w1, w2, w3, w4, wd, wc⟩ := hW
  show G 0 [some (.ref m), some (.int (i3 (lo))), some (.int (i3 (hi))), none] [] (wI B I)
  refine q_iload_n hG rfl rfl ?_
  refine q_iload_n hG rfl rfl ?_
  refine q_callS0 hG rfl rfl rfl (s_R_isRange hl hh (fun hr => ?_) (fun hr => ?_))
  · refine q_if_ne hG rfl ⟨by omega, by omega⟩ (fun _ => ?_) (fun q => absurd (by decide) q)
    refine q_aload_n hG rfl rfl ?_
    refine q_getR hG rfl (by assumption) (by assumption) ?_
    refine q_iconst (v := 0) hG rfl rfl ?_
    refine q_ialdv (v := R 0) hG rfl (by assumption) ⟨by omega, by omega, by omega⟩ (hR0 0 (by omega)) ?_
    refine q_istore_n hG rfl rfl ?_
    refine q_iload_n hG rfl rfl ?_
    refine q_bipush (v := 6) hG rfl rfl ?_
    refine q_icmp_ne hG rfl ⟨by omega, by omega⟩ ⟨by omega, by omega⟩ (fun hc20 => ?_) (fun hc20 => ?_)
    · refine q_aload_n hG rfl rfl ?_
      refine q_getR hG rfl (by assumption) (by assumption) ?_
      refine q_iconst (v := 0) hG rfl rfl ?_
      refine q_dup2 hG rfl rfl rfl ?_
      refine q_ialdv (v := R 0) hG rfl (by assumption) ⟨by omega, by omega, by omega⟩ (hR0 0 (by omega)) ?_
      refine q_iconst (v := 1) hG rfl rfl ?_
      refine q_iadd hG rfl ?_
      refine q_iast hG rfl (by assumption) ⟨by omega, by omega, by omega⟩ ?_
      refine q_aload_n hG rfl rfl ?_
      refine q_iload_n hG rfl rfl ?_
      refine q_iconst (v := 0) hG rfl rfl ?_
      refine q_iload_n hG rfl rfl ?_
      refine q_callV6 hG rfl rfl rfl (by assumption) (s_R_set (w := 0) hm0 ⟨by omega, by omega⟩ (by decide) ?_)
      refine q_aload_n hG rfl rfl ?_
      refine q_iload_n hG rfl rfl ?_
      refine q_iconst (v := 1) hG rfl rfl ?_
      refine q_iload_n hG rfl rfl ?_
      refine q_callV6 hG rfl rfl rfl (by assumption) (s_R_set (w := 1) hm0 ⟨by omega, by omega⟩ (by decide) ?_)
      refine q_aload_n hG rfl rfl ?_
      refine q_iload_n hG rfl rfl ?_
      refine q_iconst (v := 2) hG rfl rfl ?_
      refine q_iload_n hG rfl rfl ?_
      refine q_callV6 hG rfl rfl rfl (by assumption) (s_R_set (w := 2) hm0 ⟨by omega, by omega⟩ (by decide) ?_)
      refine q_aload_n hG rfl rfl ?_
      refine q_iload_n hG rfl rfl ?_
      refine q_iconst (v := 3) hG rfl rfl ?_
      refine q_iload_n hG rfl rfl ?_
      refine q_callV6 hG rfl rfl rfl (by assumption) (s_R_set (w := 3) hm0 ⟨by omega, by omega⟩ (by decide) ?_)
      refine q_aload_n hG rfl rfl ?_
      refine q_iload_n hG rfl rfl ?_
      refine q_putI0 hG rfl (by assumption) ?_
      refine q_iconst (v := 0) hG rfl rfl ?_
      refine q_iret0 hG rfl rfl ?_
      refine p0 hr (by omega) _ (RepM.of (fun j hj => ?_)) (st_same _ _ _ _) ((((((mfr.cell (by omega)).trans (mfr.cell (by omega))).trans (mfr.cell (by omega))).trans (mfr.cell (by omega))).trans (mfr.cell (by omega))).trans (mfr.fld (by omega)))
      rw [st_row _ _ (by omega)]
      simp only [st, addR, Int.toNat_zero, true_and]
      (repeat' split) <;> first | rfl | omega | exact hR0 _ hj
    · refine q_aload_n hG rfl rfl ?_
      refine q_iconst (v := 1) hG rfl rfl ?_
      refine q_bipush (v := 6) hG rfl rfl ?_
      refine q_callV6 hG rfl rfl rfl (by assumption) (s_R_rejects hm0 ?_)
      refine q_iret0 hG rfl rfl ?_
      exact p3 hr (by omega) _ (by rw [st_ne _ _ (by omega), st_same]) (by rw [st_same]) ((mfr.fld (by omega)).trans (mfr.fld (by omega)))
  · refine q_if_ne hG rfl ⟨by omega, by omega⟩ (fun q => absurd q (by decide)) (fun _ => ?_)
    refine q_iconst (v := 2) hG rfl rfl ?_
    refine q_iret0 hG rfl rfl ?_
    exact p2 (fun z => hr z)
/-- the end of a change that resets: the row behind, what is unlike -/
theorem rs_end {K J2 : IM} {m : Nat} {q : Int} {R R2 : RW} (hW : WfR q R) (hq : q ≤ 2000000000) (h2 : R2 0 = R 0) (hK : ∀ j, j < 79 → K (m + 1) j = R2 j) (hT : ∀ j, j < 79 → K (m + 1) (869 + j) = R j) (ho : WfR q (openR R2)) (j1 : ∀ j, J2 (m + 1) j = if 5 ≤ j ∧ j < 5 + 4 * (K (m + 1) 0).toNat ∧ 2 ≤ (j - 5) % 4 then K (m + 1) (j - 2) else K (m + 1) j) (hz : ∀ k : Nat, k < 6 → R 0 ≤ (k : Int) → R2 (5 + 4 * k) = R2 (5 + 4 * k + 2) ∧ R2 (5 + 4 * k + 1) = R2 (5 + 4 * k + 3)) :
    (∀ j, j < 79 → J2 (m + 1) j = openR R2 j) ∧ (0 ≤ J2 (m + 1) 0 ∧ J2 (m + 1) 0 ≤ 6) ∧ (∀ k, k < 6 → r32 (dR J2 m k 2) ∧ r32 (dR J2 m k 3) ∧ r32 (J2 (m + 1) (874 + 4 * k + 2)) ∧ r32 (J2 (m + 1) (874 + 4 * k + 3))) ∧
      sm (fun k => df (dR J2 m k 2) (J2 (m + 1) (874 + 4 * k + 2)) + df (dR J2 m k 3) (J2 (m + 1) (874 + 4 * k + 3))) (J2 (m + 1) 0).toNat = unl R (openR R2) := by
  have w0 := hW.1
  have k0 : K (m + 1) 0 = R 0 := by rw [hK 0 (by omega), h2]
  have e1 : ∀ j, j < 79 → J2 (m + 1) j = openR R2 j := fun j hj => by
    rw [j1, k0]
    by_cases h : 5 ≤ j ∧ j < 29 ∧ 2 ≤ (j - 5) % 4
    · by_cases hl : j < 5 + 4 * (R 0).toNat
      · unfold openR
        rw [if_pos ⟨h.1, hl, h.2.2⟩, if_pos h]
        exact hK _ (by omega)
      · rw [if_neg (by omega), hK j hj]
        unfold openR
        rw [if_pos h]
        obtain ⟨k, hk⟩ : ∃ k, k = (j - 5) / 4 := ⟨_, rfl⟩
        obtain ⟨z1, z2⟩ := hz k (by omega) (by omega)
        have hj2 : j = 5 + 4 * k + 2 ∨ j = 5 + 4 * k + 3 := by omega
        rcases hj2 with e | e
        · subst e
          exact z1.symm
        · subst e
          exact z2.symm
    · unfold openR
      rw [if_neg (by omega), if_neg h]
      exact hK j hj
  have eT : ∀ j, j < 79 → J2 (m + 1) (869 + j) = R j := fun j hj => by
    rw [j1, if_neg (by omega)]
    exact hT j hj
  have d2 : ∀ k, k < 6 → dR J2 m k 2 = openR R2 (5 + 4 * k + 2) ∧ dR J2 m k 3 = openR R2 (5 + 4 * k + 3) := fun k hk => ⟨e1 _ (by omega), e1 _ (by omega)⟩
  have t2 : ∀ k, k < 6 → J2 (m + 1) (874 + 4 * k + 2) = R (5 + 4 * k + 2) ∧ J2 (m + 1) (874 + 4 * k + 3) = R (5 + 4 * k + 3) := fun k hk => by
    refine ⟨?_, ?_⟩
    · rw [show 874 + 4 * k + 2 = 869 + (5 + 4 * k + 2) by omega]; exact eT _ (by omega)
    · rw [show 874 + 4 * k + 3 = 869 + (5 + 4 * k + 3) by omega]; exact eT _ (by omega)
  have j0 : J2 (m + 1) 0 = R 0 := by rw [e1 0 (by omega), openR_o _ (by omega), h2]
  refine ⟨e1, by rw [j0]; exact w0, fun k hk => ?_, ?_⟩
  · rw [(d2 k hk).1, (d2 k hk).2, (t2 k hk).1, (t2 k hk).2]
    have f := (hW.2.2.2.2.2.1 k hk).1
    have g := (ho.2.2.2.2.2.1 k hk).1
    exact ⟨⟨by omega, by omega⟩, ⟨by omega, by omega⟩, ⟨by omega, by omega⟩, ⟨by omega, by omega⟩⟩
  · rw [j0]
    unfold unl
    refine sm_congr _ (fun k hk => ?_)
    have hk6 : k < 6 := by omega
    rw [(d2 k hk6).1, (d2 k hk6).2, (t2 k hk6).1, (t2 k hk6).2, df_c (R (5 + 4 * k + 2)), df_c (R (5 + 4 * k + 3))]

theorem s_R_resetsAll {d : Nat} {B : HP} {I : IM} {Post : Out → HP → Prop} {m : Nat} (hm : oM B m) {R : RW} {q : Int} (hR : RepM I m 0 R) (hW : WfR q R) (hq : q ≤ 2000000000)  (p0 : ∀ J : IM, RepM J m 0 (openR R) → J m 4 = unl R (openR R) → mfr I J m → Post (.inl (some (.int (i3 0)))) (wI B J)) : Sp (d + 3) k_X9_resetsAll [.ref m] (wI B I) Post := by
  refine Sp_intro md_X9_resetsAll rfl rfl (fun G hG => ?_)
  have hm0 := hm
  obtain ⟨n1, n2, n3, n4, n5, n6, n7, n8, n9, n10, n11⟩ := hm
  have hR0 : ∀ j, j < 79 → I (m + 1) j = R j := hR.at
  have hW0 := hW
  obtain ⟨w0, w1, w2, w3, w4, wd, wc⟩ := hW
  show G 0 [some (.ref m)] [] (wI B I)
  refine q_aload_n hG rfl rfl ?_
  refine q_iconst (v := 0) hG rfl rfl ?_
  refine q_bipush (v := 11) hG rfl rfl ?_
  refine q_callV6 hG rfl rfl rfl (by assumption) (s_R_copies (a := 0) (b := 11) hm0 (by decide) (by decide) (fun J1 a1 a2 a3 => ?_))
  have hK : ∀ j, j < 79 → J1 (m + 1) j = R j := fun j hj => by rw [a2 j (by omega)]; exact hR0 j hj
  have hT : ∀ j, j < 79 → J1 (m + 1) (869 + j) = R j := fun j hj => by
    have := a1 j hj
    rw [show 79 * 11 + j = 869 + j by omega, show 79 * 0 + j = j by omega] at this
    rw [this]
    exact hR0 j hj
  have hk0 : R 0 = R 0 := rfl
  have hk06 := w0
  have ho := openR_W hW0
  have hz : ∀ k : Nat, k < 6 → R 0 ≤ (k : Int) → R (5 + 4 * k) = R (5 + 4 * k + 2) ∧ R (5 + 4 * k + 1) = R (5 + 4 * k + 3) := fun k hk h0 => by have f := wd k hk; have f2 := f.2 h0; omega
  refine q_aload_n hG rfl rfl ?_
  refine q_callV6 hG rfl rfl rfl (by assumption) (s_R_resets hm0 (by rw [hK 0 (by omega)]; exact hk06) (fun J2 j1 j2 => ?_))
  obtain ⟨e1, e2, e3, e4⟩ := rs_end hW0 hq hk0 hK hT ho j1 hz
  refine q_aload_n hG rfl rfl ?_
  refine q_aload_n hG rfl rfl ?_
  refine q_callV6 hG rfl rfl rfl (by assumption) (s_R_unlike hm0 e2 e3 ?_)
  rw [e4]
  refine q_putI0 hG rfl (by assumption) ?_
  refine q_iconst (v := 0) hG rfl rfl ?_
  refine q_iret0 hG rfl rfl ?_
  refine p0 _ (RepM.of (fun j hj => ?_)) (st_same _ _ _ _) ⟨fun a p q => ?_, fun k p q r s t => ?_, fun j hj => ?_⟩
  · rw [st_row _ _ (by omega)]; exact e1 j hj
  · rw [st_row _ _ p, j2 a q, a3 a q]
  · rw [st_ne _ _ (by omega), j2 m (by omega), a3 m (by omega)]
  · rw [st_row _ _ (by omega), j1, if_neg (by have z := hK 0 (by omega); omega)]; exact a2 j (by omega)
theorem s_R_frames {d : Nat} {B : HP} {I : IM} {Post : Out → HP → Prop} {m : Nat} (hm : oM B m) {R : RW} {q : Int} (hR : RepM I m 0 R) (hW : WfR q R) (hq : q ≤ 2000000000) {x lo hi : Int} (hx : r32 x) (hl : r32 lo) (hh : r32 hi) (p1 : ¬ (0 ≤ x ∧ x < R 0) → Post (.inl (some (.int (i3 1)))) (wI B I)) (p2 : 0 ≤ x ∧ x < R 0 → ¬ rngP lo hi → Post (.inl (some (.int (i3 2)))) (wI B I)) (p0 : 0 ≤ x ∧ x < R 0 → rngP lo hi → ∀ J : IM, RepM J m 0 (frmR R x.toNat lo hi) → J m 4 = unl R (frmR R x.toNat lo hi) → mfr I J m → Post (.inl (some (.int (i3 0)))) (wI B J)) : Sp (d + 3) k_X9_frames [.ref m, .int (i3 (x)), .int (i3 (lo)), .int (i3 (hi))] (wI B I) Post := by
  refine Sp_intro md_X9_frames rfl rfl (fun G hG => ?_)
  have hm0 := hm
  obtain ⟨n1, n2, n3, n4, n5, n6, n7, n8, n9, n10, n11⟩ := hm
  have hR0 : ∀ j, j < 79 → I (m + 1) j = R j := hR.at
  have hW0 := hW
  obtain ⟨w0, w1, w2, w3, w4, wd, wc⟩ := hW
  show G 0 [some (.ref m), some (.int (i3 (x))), some (.int (i3 (lo))), some (.int (i3 (hi)))] [] (wI B I)
  refine q_aload_n hG rfl rfl ?_
  refine q_iload_n hG rfl rfl ?_
  refine q_callV6 hG rfl rfl rfl (by assumption) (s_R_isDoor hm0 hx (by rw [hR0 0 (by omega)]; exact w0) (fun hd => ?_) (fun hd => ?_))
  · rw [hR0 0 (by omega)] at hd
    refine q_if_ne hG rfl ⟨by omega, by omega⟩ (fun _ => ?_) (fun q => absurd (by decide) q)
    refine q_iload_n hG rfl rfl ?_
    refine q_iload_n hG rfl rfl ?_
    refine q_callS0 hG rfl rfl rfl (s_R_isRange hl hh (fun hr => ?_) (fun hr => ?_))
    · refine q_if_ne hG rfl ⟨by omega, by omega⟩ (fun _ => ?_) (fun q => absurd (by decide) q)
      refine q_aload_n hG rfl rfl ?_
      refine q_iconst (v := 0) hG rfl rfl ?_
      refine q_bipush (v := 11) hG rfl rfl ?_
      refine q_callV6 hG rfl rfl rfl (by assumption) (s_R_copies (a := 0) (b := 11) hm0 (by decide) (by decide) (fun J1 a1 a2 a3 => ?_))
      refine q_aload_n hG rfl rfl ?_
      refine q_iload_n hG rfl rfl ?_
      refine q_iconst (v := 0) hG rfl rfl ?_
      refine q_iload_n hG rfl rfl ?_
      refine q_callV6 hG rfl rfl rfl (by assumption) (s_R_set (w := 0) hm0 ⟨by omega, by omega⟩ (by decide) ?_)
      refine q_aload_n hG rfl rfl ?_
      refine q_iload_n hG rfl rfl ?_
      refine q_iconst (v := 1) hG rfl rfl ?_
      refine q_iload_n hG rfl rfl ?_
      refine q_callV6 hG rfl rfl rfl (by assumption) (s_R_set (w := 1) hm0 ⟨by omega, by omega⟩ (by decide) ?_)
      obtain ⟨K, eK⟩ : ∃ K, K = st (st J1 (m + 1) (5 + 4 * x.toNat + 0) lo) (m + 1) (5 + 4 * x.toNat + 1) hi := ⟨_, rfl⟩
      rw [← eK]
      obtain ⟨R2, eR⟩ : ∃ R2 : RW, R2 = fun j => if j = 5 + 4 * x.toNat then lo else if j = 5 + 4 * x.toNat + 1 then hi else R j := ⟨_, rfl⟩
      have hK : ∀ j, j < 79 → K (m + 1) j = R2 j := fun j hj => by
        rw [eK, eR]
        simp only [st, true_and]
        have z := a2 j (by omega)
        have z2 := hR0 j hj
        (repeat' split) <;> first | rfl | omega
      have hT : ∀ j, j < 79 → K (m + 1) (869 + j) = R j := fun j hj => by
        rw [eK, st_ne _ _ (by omega), st_ne _ _ (by omega)]
        have := a1 j hj
        rw [show 79 * 11 + j = 869 + j by omega, show 79 * 0 + j = j by omega] at this
        rw [this]
        exact hR0 j hj
      have hk0 : R2 0 = R 0 := by rw [eR]; exact (if_neg (by omega)).trans (if_neg (by omega))
      have hk06 : 0 ≤ R2 0 ∧ R2 0 ≤ 6 := by rw [hk0]; exact w0
      have ef : frmR R x.toNat lo hi = openR R2 := by rw [eR]; rfl
      have ho : WfR q (openR R2) := by rw [← ef]; exact frmR_W hW0 (by omega) hr
      have hz : ∀ k : Nat, k < 6 → R 0 ≤ (k : Int) → R2 (5 + 4 * k) = R2 (5 + 4 * k + 2) ∧ R2 (5 + 4 * k + 1) = R2 (5 + 4 * k + 3) := fun k hk h0 => by
        have f := wd k hk
        have f2 := f.2 h0
        have ne : k ≠ x.toNat := by omega
        rw [eR]
        dsimp only
        rw [if_neg (by omega), if_neg (by omega), if_neg (by omega), if_neg (by omega), if_neg (by omega), if_neg (by omega), if_neg (by omega), if_neg (by omega)]
        omega
      refine q_aload_n hG rfl rfl ?_
      refine q_callV6 hG rfl rfl rfl (by assumption) (s_R_resets hm0 (by rw [hK 0 (by omega)]; exact hk06) (fun J2 j1 j2 => ?_))
      obtain ⟨e1, e2, e3, e4⟩ := rs_end hW0 hq hk0 hK hT ho j1 hz
      refine q_aload_n hG rfl rfl ?_
      refine q_aload_n hG rfl rfl ?_
      refine q_callV6 hG rfl rfl rfl (by assumption) (s_R_unlike hm0 e2 e3 ?_)
      rw [e4]
      refine q_putI0 hG rfl (by assumption) ?_
      refine q_iconst (v := 0) hG rfl rfl ?_
      refine q_iret0 hG rfl rfl ?_
      rw [← ef] at e1 e4 ⊢
      refine p0 hd hr _ (RepM.of (fun j hj => ?_)) (st_same _ _ _ _) ⟨fun a p q => ?_, fun k p q r s t => ?_, fun j hj => ?_⟩
      · rw [st_row _ _ (by omega)]; exact e1 j hj
      · rw [st_row _ _ p, j2 a q, eK, st_row _ _ q, st_row _ _ q, a3 a q]
      · rw [st_ne _ _ (by omega), j2 m (by omega), eK, st_row _ _ (by omega), st_row _ _ (by omega), a3 m (by omega)]
      · rw [st_row _ _ (by omega), j1, if_neg (by have z := hK 0 (by omega); omega), eK, st_ne _ _ (by omega), st_ne _ _ (by omega)]; exact a2 j (by omega)
    · refine q_if_ne hG rfl ⟨by omega, by omega⟩ (fun q => absurd q (by decide)) (fun _ => ?_)
      refine q_iconst (v := 2) hG rfl rfl ?_
      refine q_iret0 hG rfl rfl ?_
      exact p2 hd hr
  · rw [hR0 0 (by omega)] at hd
    refine q_if_ne hG rfl ⟨by omega, by omega⟩ (fun q => absurd q (by decide)) (fun _ => ?_)
    refine q_iconst (v := 1) hG rfl rfl ?_
    refine q_iret0 hG rfl rfl ?_
    exact p1 hd
theorem s_R_narrowed {d : Nat} {B : HP} {I : IM} {Post : Out → HP → Prop} {m : Nat} (hm : oM B m) {R : RW} {q : Int} (hR : RepM I m 0 R) (hW : WfR q R) (hq : q ≤ 2000000000) {x lo hi : Int} (hx : r32 x) (hl : r32 lo) (hh : r32 hi) (p1 : ¬ (0 ≤ x ∧ x < R 0) → Post (.inl (some (.int (i3 1)))) (wI B I)) (p2 : 0 ≤ x ∧ x < R 0 → ¬ rngP lo hi → Post (.inl (some (.int (i3 2)))) (wI B I)) (p3 : 0 ≤ x ∧ x < R 0 → rngP lo hi → (if hi < R (5 + 4 * x.toNat + 3) then hi else R (5 + 4 * x.toNat + 3)) < (if R (5 + 4 * x.toNat + 2) < lo then lo else R (5 + 4 * x.toNat + 2)) → ∀ J : IM, J m 8 = 4 → J m 9 = R (5 + 4 * x.toNat + 2) → mfr I J m → Post (.inl (some (.int (i3 3)))) (wI B J)) (p0 : 0 ≤ x ∧ x < R 0 → rngP lo hi → (if R (5 + 4 * x.toNat + 2) < lo then lo else R (5 + 4 * x.toNat + 2)) ≤ (if hi < R (5 + 4 * x.toNat + 3) then hi else R (5 + 4 * x.toNat + 3)) → ∀ J : IM, RepM J m 0 (narR R x.toNat (if R (5 + 4 * x.toNat + 2) < lo then lo else R (5 + 4 * x.toNat + 2)) (if hi < R (5 + 4 * x.toNat + 3) then hi else R (5 + 4 * x.toNat + 3))) → J m 4 = df (if R (5 + 4 * x.toNat + 2) < lo then lo else R (5 + 4 * x.toNat + 2)) (R (5 + 4 * x.toNat + 2)) + df (if hi < R (5 + 4 * x.toNat + 3) then hi else R (5 + 4 * x.toNat + 3)) (R (5 + 4 * x.toNat + 3)) → mfr I J m → Post (.inl (some (.int (i3 0)))) (wI B J)) : Sp (d + 3) k_X9_narrowed [.ref m, .int (i3 (x)), .int (i3 (lo)), .int (i3 (hi))] (wI B I) Post := by
  refine Sp_intro md_X9_narrowed rfl rfl (fun G hG => ?_)
  have hm0 := hm
  obtain ⟨n1, n2, n3, n4, n5, n6, n7, n8, n9, n10, n11⟩ := hm
  have hR0 : ∀ j, j < 79 → I (m + 1) j = R j := hR.at
  have hW0 := hW
  obtain ⟨w0, w1, w2, w3, w4, wd, wc⟩ := hW
  show G 0 [some (.ref m), some (.int (i3 (x))), some (.int (i3 (lo))), some (.int (i3 (hi))), none, none] [] (wI B I)
  refine q_aload_n hG rfl rfl ?_
  refine q_iload_n hG rfl rfl ?_
  refine q_callV6 hG rfl rfl rfl (by assumption) (s_R_isDoor hm0 hx (by rw [hR0 0 (by omega)]; exact w0) (fun hd => ?_) (fun hd => ?_))
  · rw [hR0 0 (by omega)] at hd
    refine q_if_ne hG rfl ⟨by omega, by omega⟩ (fun _ => ?_) (fun q => absurd (by decide) q)
    refine q_iload_n hG rfl rfl ?_
    refine q_iload_n hG rfl rfl ?_
    refine q_callS0 hG rfl rfl rfl (s_R_isRange hl hh (fun hr => ?_) (fun hr => ?_))
    · refine q_if_ne hG rfl ⟨by omega, by omega⟩ (fun _ => ?_) (fun q => absurd (by decide) q)
      refine q_aload_n hG rfl rfl ?_
      refine q_iload_n hG rfl rfl ?_
      refine q_iconst (v := 2) hG rfl rfl ?_
      refine q_callV6 hG rfl rfl rfl (by assumption) (s_R_d (w := 2) hm0 ⟨by omega, by omega⟩ (by decide) ?_)
      have f := (wd x.toNat (by omega)).1
      obtain ⟨z1, z2, z3⟩ := hr
      rw [show dR I m x.toNat 2 = R (5 + 4 * x.toNat + 2) from hR0 _ (by omega)]
      refine q_istore hG rfl rfl ?_
      refine q_aload_n hG rfl rfl ?_
      refine q_iload_n hG rfl rfl ?_
      refine q_iconst (v := 3) hG rfl rfl ?_
      refine q_callV6 hG rfl rfl rfl (by assumption) (s_R_d (w := 3) hm0 ⟨by omega, by omega⟩ (by decide) ?_)
      rw [show dR I m x.toNat 3 = R (5 + 4 * x.toNat + 3) from hR0 _ (by omega)]
      refine q_istore hG rfl rfl ?_
      refine q_iload_n hG rfl rfl ?_
      refine q_iload hG rfl rfl ?_
      refine q_icmp_lt hG rfl ⟨by omega, by omega⟩ ⟨by omega, by omega⟩ (fun hc39 => ?_) (fun hc39 => ?_)
      · refine q_aload_n hG rfl rfl ?_
        refine q_iconst (v := 4) hG rfl rfl ?_
        refine q_iload hG rfl rfl ?_
        refine q_callV6 hG rfl rfl rfl (by assumption) (s_R_rejects hm0 ?_)
        refine q_iret0 hG rfl rfl ?_
        exact p3 hd ⟨z1, z2, z3⟩ (by (repeat' split) <;> omega) _ (by rw [st_ne _ _ (by omega), st_same]) (by rw [st_same]) ((mfr.fld (by omega)).trans (mfr.fld (by omega)))
      · refine q_iload_n hG rfl rfl ?_
        refine q_iload hG rfl rfl ?_
        refine q_icmp_le hG rfl ⟨by omega, by omega⟩ ⟨by omega, by omega⟩ (fun hc45 => ?_) (fun hc45 => ?_)
        · refine q_aload_n hG rfl rfl ?_
          refine q_iload_n hG rfl rfl ?_
          refine q_iconst (v := 2) hG rfl rfl ?_
          refine q_iload_n hG rfl rfl ?_
          refine q_iload hG rfl rfl ?_
          refine q_icmp_le hG rfl ⟨by omega, by omega⟩ ⟨by omega, by omega⟩ (fun hc62 => ?_) (fun hc62 => ?_)
          · refine q_iload hG rfl rfl ?_
            refine q_callV6 hG rfl rfl rfl (by assumption) (s_R_set (w := 2) hm0 ⟨by omega, by omega⟩ (by decide) ?_)
            refine q_aload_n hG rfl rfl ?_
            refine q_iload_n hG rfl rfl ?_
            refine q_iconst (v := 3) hG rfl rfl ?_
            refine q_iload_n hG rfl rfl ?_
            refine q_iload hG rfl rfl ?_
            refine q_icmp_ge hG rfl ⟨by omega, by omega⟩ ⟨by omega, by omega⟩ (fun hc80 => ?_) (fun hc80 => ?_)
            · refine q_iload hG rfl rfl ?_
              refine q_callV6 hG rfl rfl rfl (by assumption) (s_R_set (w := 3) hm0 ⟨by omega, by omega⟩ (by decide) ?_)
              refine q_aload_n hG rfl rfl ?_
              refine q_iload_n hG rfl rfl ?_
              refine q_iload hG rfl rfl ?_
              refine q_icmp_le hG rfl ⟨by omega, by omega⟩ ⟨by omega, by omega⟩ (fun hc96 => ?_) (fun hc96 => ?_)
              · refine q_iconst (v := 0) hG rfl rfl ?_
                refine q_iload_n hG rfl rfl ?_
                refine q_iload hG rfl rfl ?_
                refine q_icmp_ge hG rfl ⟨by omega, by omega⟩ ⟨by omega, by omega⟩ (fun hc107 => ?_) (fun hc107 => ?_)
                · refine q_iconst (v := 0) hG rfl rfl ?_
                  refine q_iadd hG rfl ?_
                  refine q_putI0 hG rfl (by assumption) ?_
                  refine q_iconst (v := 0) hG rfl rfl ?_
                  refine q_iret0 hG rfl rfl ?_
                  have a1 : (if R (5 + 4 * x.toNat + 2) < lo then lo else R (5 + 4 * x.toNat + 2)) = (if R (5 + 4 * x.toNat + 2) < lo then lo else R (5 + 4 * x.toNat + 2)) := rfl
                  refine p0 hd ⟨z1, z2, z3⟩ (by (repeat' split) <;> omega) _ (RepM.of (fun j hj => ?_)) ?_ (((mfr.cell (by omega)).trans (mfr.cell (by omega))).trans (mfr.fld (by omega)))
                  · rw [st_row _ _ (by omega)]
                    have z := hR0 j hj
                    simp only [st, narR, true_and]
                    (repeat' split) <;> first | rfl | omega
                  · rw [st_same]
                    unfold df
                    (repeat' split) <;> omega
                · refine q_iconst (v := 1) hG rfl rfl ?_
                  refine q_goto hG rfl ?_
                  refine q_iadd hG rfl ?_
                  refine q_putI0 hG rfl (by assumption) ?_
                  refine q_iconst (v := 0) hG rfl rfl ?_
                  refine q_iret0 hG rfl rfl ?_
                  have a1 : (if R (5 + 4 * x.toNat + 2) < lo then lo else R (5 + 4 * x.toNat + 2)) = (if R (5 + 4 * x.toNat + 2) < lo then lo else R (5 + 4 * x.toNat + 2)) := rfl
                  refine p0 hd ⟨z1, z2, z3⟩ (by (repeat' split) <;> omega) _ (RepM.of (fun j hj => ?_)) ?_ (((mfr.cell (by omega)).trans (mfr.cell (by omega))).trans (mfr.fld (by omega)))
                  · rw [st_row _ _ (by omega)]
                    have z := hR0 j hj
                    simp only [st, narR, true_and]
                    (repeat' split) <;> first | rfl | omega
                  · rw [st_same]
                    unfold df
                    (repeat' split) <;> omega
              · refine q_iconst (v := 1) hG rfl rfl ?_
                refine q_goto hG rfl ?_
                refine q_iload_n hG rfl rfl ?_
                refine q_iload hG rfl rfl ?_
                refine q_icmp_ge hG rfl ⟨by omega, by omega⟩ ⟨by omega, by omega⟩ (fun hc107 => ?_) (fun hc107 => ?_)
                · refine q_iconst (v := 0) hG rfl rfl ?_
                  refine q_iadd hG rfl ?_
                  refine q_putI0 hG rfl (by assumption) ?_
                  refine q_iconst (v := 0) hG rfl rfl ?_
                  refine q_iret0 hG rfl rfl ?_
                  have a1 : (if R (5 + 4 * x.toNat + 2) < lo then lo else R (5 + 4 * x.toNat + 2)) = (if R (5 + 4 * x.toNat + 2) < lo then lo else R (5 + 4 * x.toNat + 2)) := rfl
                  refine p0 hd ⟨z1, z2, z3⟩ (by (repeat' split) <;> omega) _ (RepM.of (fun j hj => ?_)) ?_ (((mfr.cell (by omega)).trans (mfr.cell (by omega))).trans (mfr.fld (by omega)))
                  · rw [st_row _ _ (by omega)]
                    have z := hR0 j hj
                    simp only [st, narR, true_and]
                    (repeat' split) <;> first | rfl | omega
                  · rw [st_same]
                    unfold df
                    (repeat' split) <;> omega
                · refine q_iconst (v := 1) hG rfl rfl ?_
                  refine q_goto hG rfl ?_
                  refine q_iadd hG rfl ?_
                  refine q_putI0 hG rfl (by assumption) ?_
                  refine q_iconst (v := 0) hG rfl rfl ?_
                  refine q_iret0 hG rfl rfl ?_
                  have a1 : (if R (5 + 4 * x.toNat + 2) < lo then lo else R (5 + 4 * x.toNat + 2)) = (if R (5 + 4 * x.toNat + 2) < lo then lo else R (5 + 4 * x.toNat + 2)) := rfl
                  refine p0 hd ⟨z1, z2, z3⟩ (by (repeat' split) <;> omega) _ (RepM.of (fun j hj => ?_)) ?_ (((mfr.cell (by omega)).trans (mfr.cell (by omega))).trans (mfr.fld (by omega)))
                  · rw [st_row _ _ (by omega)]
                    have z := hR0 j hj
                    simp only [st, narR, true_and]
                    (repeat' split) <;> first | rfl | omega
                  · rw [st_same]
                    unfold df
                    (repeat' split) <;> omega
            · refine q_iload_n hG rfl rfl ?_
              refine q_goto hG rfl ?_
              refine q_callV6 hG rfl rfl rfl (by assumption) (s_R_set (w := 3) hm0 ⟨by omega, by omega⟩ (by decide) ?_)
              refine q_aload_n hG rfl rfl ?_
              refine q_iload_n hG rfl rfl ?_
              refine q_iload hG rfl rfl ?_
              refine q_icmp_le hG rfl ⟨by omega, by omega⟩ ⟨by omega, by omega⟩ (fun hc96 => ?_) (fun hc96 => ?_)
              · refine q_iconst (v := 0) hG rfl rfl ?_
                refine q_iload_n hG rfl rfl ?_
                refine q_iload hG rfl rfl ?_
                refine q_icmp_ge hG rfl ⟨by omega, by omega⟩ ⟨by omega, by omega⟩ (fun hc107 => ?_) (fun hc107 => ?_)
                · refine q_iconst (v := 0) hG rfl rfl ?_
                  refine q_iadd hG rfl ?_
                  refine q_putI0 hG rfl (by assumption) ?_
                  refine q_iconst (v := 0) hG rfl rfl ?_
                  refine q_iret0 hG rfl rfl ?_
                  have a1 : (if R (5 + 4 * x.toNat + 2) < lo then lo else R (5 + 4 * x.toNat + 2)) = (if R (5 + 4 * x.toNat + 2) < lo then lo else R (5 + 4 * x.toNat + 2)) := rfl
                  refine p0 hd ⟨z1, z2, z3⟩ (by (repeat' split) <;> omega) _ (RepM.of (fun j hj => ?_)) ?_ (((mfr.cell (by omega)).trans (mfr.cell (by omega))).trans (mfr.fld (by omega)))
                  · rw [st_row _ _ (by omega)]
                    have z := hR0 j hj
                    simp only [st, narR, true_and]
                    (repeat' split) <;> first | rfl | omega
                  · rw [st_same]
                    unfold df
                    (repeat' split) <;> omega
                · refine q_iconst (v := 1) hG rfl rfl ?_
                  refine q_goto hG rfl ?_
                  refine q_iadd hG rfl ?_
                  refine q_putI0 hG rfl (by assumption) ?_
                  refine q_iconst (v := 0) hG rfl rfl ?_
                  refine q_iret0 hG rfl rfl ?_
                  have a1 : (if R (5 + 4 * x.toNat + 2) < lo then lo else R (5 + 4 * x.toNat + 2)) = (if R (5 + 4 * x.toNat + 2) < lo then lo else R (5 + 4 * x.toNat + 2)) := rfl
                  refine p0 hd ⟨z1, z2, z3⟩ (by (repeat' split) <;> omega) _ (RepM.of (fun j hj => ?_)) ?_ (((mfr.cell (by omega)).trans (mfr.cell (by omega))).trans (mfr.fld (by omega)))
                  · rw [st_row _ _ (by omega)]
                    have z := hR0 j hj
                    simp only [st, narR, true_and]
                    (repeat' split) <;> first | rfl | omega
                  · rw [st_same]
                    unfold df
                    (repeat' split) <;> omega
              · refine q_iconst (v := 1) hG rfl rfl ?_
                refine q_goto hG rfl ?_
                refine q_iload_n hG rfl rfl ?_
                refine q_iload hG rfl rfl ?_
                refine q_icmp_ge hG rfl ⟨by omega, by omega⟩ ⟨by omega, by omega⟩ (fun hc107 => ?_) (fun hc107 => ?_)
                · refine q_iconst (v := 0) hG rfl rfl ?_
                  refine q_iadd hG rfl ?_
                  refine q_putI0 hG rfl (by assumption) ?_
                  refine q_iconst (v := 0) hG rfl rfl ?_
                  refine q_iret0 hG rfl rfl ?_
                  have a1 : (if R (5 + 4 * x.toNat + 2) < lo then lo else R (5 + 4 * x.toNat + 2)) = (if R (5 + 4 * x.toNat + 2) < lo then lo else R (5 + 4 * x.toNat + 2)) := rfl
                  refine p0 hd ⟨z1, z2, z3⟩ (by (repeat' split) <;> omega) _ (RepM.of (fun j hj => ?_)) ?_ (((mfr.cell (by omega)).trans (mfr.cell (by omega))).trans (mfr.fld (by omega)))
                  · rw [st_row _ _ (by omega)]
                    have z := hR0 j hj
                    simp only [st, narR, true_and]
                    (repeat' split) <;> first | rfl | omega
                  · rw [st_same]
                    unfold df
                    (repeat' split) <;> omega
                · refine q_iconst (v := 1) hG rfl rfl ?_
                  refine q_goto hG rfl ?_
                  refine q_iadd hG rfl ?_
                  refine q_putI0 hG rfl (by assumption) ?_
                  refine q_iconst (v := 0) hG rfl rfl ?_
                  refine q_iret0 hG rfl rfl ?_
                  have a1 : (if R (5 + 4 * x.toNat + 2) < lo then lo else R (5 + 4 * x.toNat + 2)) = (if R (5 + 4 * x.toNat + 2) < lo then lo else R (5 + 4 * x.toNat + 2)) := rfl
                  refine p0 hd ⟨z1, z2, z3⟩ (by (repeat' split) <;> omega) _ (RepM.of (fun j hj => ?_)) ?_ (((mfr.cell (by omega)).trans (mfr.cell (by omega))).trans (mfr.fld (by omega)))
                  · rw [st_row _ _ (by omega)]
                    have z := hR0 j hj
                    simp only [st, narR, true_and]
                    (repeat' split) <;> first | rfl | omega
                  · rw [st_same]
                    unfold df
                    (repeat' split) <;> omega
          · refine q_iload_n hG rfl rfl ?_
            refine q_goto hG rfl ?_
            refine q_callV6 hG rfl rfl rfl (by assumption) (s_R_set (w := 2) hm0 ⟨by omega, by omega⟩ (by decide) ?_)
            refine q_aload_n hG rfl rfl ?_
            refine q_iload_n hG rfl rfl ?_
            refine q_iconst (v := 3) hG rfl rfl ?_
            refine q_iload_n hG rfl rfl ?_
            refine q_iload hG rfl rfl ?_
            refine q_icmp_ge hG rfl ⟨by omega, by omega⟩ ⟨by omega, by omega⟩ (fun hc80 => ?_) (fun hc80 => ?_)
            · refine q_iload hG rfl rfl ?_
              refine q_callV6 hG rfl rfl rfl (by assumption) (s_R_set (w := 3) hm0 ⟨by omega, by omega⟩ (by decide) ?_)
              refine q_aload_n hG rfl rfl ?_
              refine q_iload_n hG rfl rfl ?_
              refine q_iload hG rfl rfl ?_
              refine q_icmp_le hG rfl ⟨by omega, by omega⟩ ⟨by omega, by omega⟩ (fun hc96 => ?_) (fun hc96 => ?_)
              · refine q_iconst (v := 0) hG rfl rfl ?_
                refine q_iload_n hG rfl rfl ?_
                refine q_iload hG rfl rfl ?_
                refine q_icmp_ge hG rfl ⟨by omega, by omega⟩ ⟨by omega, by omega⟩ (fun hc107 => ?_) (fun hc107 => ?_)
                · refine q_iconst (v := 0) hG rfl rfl ?_
                  refine q_iadd hG rfl ?_
                  refine q_putI0 hG rfl (by assumption) ?_
                  refine q_iconst (v := 0) hG rfl rfl ?_
                  refine q_iret0 hG rfl rfl ?_
                  have a1 : (if R (5 + 4 * x.toNat + 2) < lo then lo else R (5 + 4 * x.toNat + 2)) = (if R (5 + 4 * x.toNat + 2) < lo then lo else R (5 + 4 * x.toNat + 2)) := rfl
                  refine p0 hd ⟨z1, z2, z3⟩ (by (repeat' split) <;> omega) _ (RepM.of (fun j hj => ?_)) ?_ (((mfr.cell (by omega)).trans (mfr.cell (by omega))).trans (mfr.fld (by omega)))
                  · rw [st_row _ _ (by omega)]
                    have z := hR0 j hj
                    simp only [st, narR, true_and]
                    (repeat' split) <;> first | rfl | omega
                  · rw [st_same]
                    unfold df
                    (repeat' split) <;> omega
                · refine q_iconst (v := 1) hG rfl rfl ?_
                  refine q_goto hG rfl ?_
                  refine q_iadd hG rfl ?_
                  refine q_putI0 hG rfl (by assumption) ?_
                  refine q_iconst (v := 0) hG rfl rfl ?_
                  refine q_iret0 hG rfl rfl ?_
                  have a1 : (if R (5 + 4 * x.toNat + 2) < lo then lo else R (5 + 4 * x.toNat + 2)) = (if R (5 + 4 * x.toNat + 2) < lo then lo else R (5 + 4 * x.toNat + 2)) := rfl
                  refine p0 hd ⟨z1, z2, z3⟩ (by (repeat' split) <;> omega) _ (RepM.of (fun j hj => ?_)) ?_ (((mfr.cell (by omega)).trans (mfr.cell (by omega))).trans (mfr.fld (by omega)))
                  · rw [st_row _ _ (by omega)]
                    have z := hR0 j hj
                    simp only [st, narR, true_and]
                    (repeat' split) <;> first | rfl | omega
                  · rw [st_same]
                    unfold df
                    (repeat' split) <;> omega
              · refine q_iconst (v := 1) hG rfl rfl ?_
                refine q_goto hG rfl ?_
                refine q_iload_n hG rfl rfl ?_
                refine q_iload hG rfl rfl ?_
                refine q_icmp_ge hG rfl ⟨by omega, by omega⟩ ⟨by omega, by omega⟩ (fun hc107 => ?_) (fun hc107 => ?_)
                · refine q_iconst (v := 0) hG rfl rfl ?_
                  refine q_iadd hG rfl ?_
                  refine q_putI0 hG rfl (by assumption) ?_
                  refine q_iconst (v := 0) hG rfl rfl ?_
                  refine q_iret0 hG rfl rfl ?_
                  have a1 : (if R (5 + 4 * x.toNat + 2) < lo then lo else R (5 + 4 * x.toNat + 2)) = (if R (5 + 4 * x.toNat + 2) < lo then lo else R (5 + 4 * x.toNat + 2)) := rfl
                  refine p0 hd ⟨z1, z2, z3⟩ (by (repeat' split) <;> omega) _ (RepM.of (fun j hj => ?_)) ?_ (((mfr.cell (by omega)).trans (mfr.cell (by omega))).trans (mfr.fld (by omega)))
                  · rw [st_row _ _ (by omega)]
                    have z := hR0 j hj
                    simp only [st, narR, true_and]
                    (repeat' split) <;> first | rfl | omega
                  · rw [st_same]
                    unfold df
                    (repeat' split) <;> omega
                · refine q_iconst (v := 1) hG rfl rfl ?_
                  refine q_goto hG rfl ?_
                  refine q_iadd hG rfl ?_
                  refine q_putI0 hG rfl (by assumption) ?_
                  refine q_iconst (v := 0) hG rfl rfl ?_
                  refine q_iret0 hG rfl rfl ?_
                  have a1 : (if R (5 + 4 * x.toNat + 2) < lo then lo else R (5 + 4 * x.toNat + 2)) = (if R (5 + 4 * x.toNat + 2) < lo then lo else R (5 + 4 * x.toNat + 2)) := rfl
                  refine p0 hd ⟨z1, z2, z3⟩ (by (repeat' split) <;> omega) _ (RepM.of (fun j hj => ?_)) ?_ (((mfr.cell (by omega)).trans (mfr.cell (by omega))).trans (mfr.fld (by omega)))
                  · rw [st_row _ _ (by omega)]
                    have z := hR0 j hj
                    simp only [st, narR, true_and]
                    (repeat' split) <;> first | rfl | omega
                  · rw [st_same]
                    unfold df
                    (repeat' split) <;> omega
            · refine q_iload_n hG rfl rfl ?_
              refine q_goto hG rfl ?_
              refine q_callV6 hG rfl rfl rfl (by assumption) (s_R_set (w := 3) hm0 ⟨by omega, by omega⟩ (by decide) ?_)
              refine q_aload_n hG rfl rfl ?_
              refine q_iload_n hG rfl rfl ?_
              refine q_iload hG rfl rfl ?_
              refine q_icmp_le hG rfl ⟨by omega, by omega⟩ ⟨by omega, by omega⟩ (fun hc96 => ?_) (fun hc96 => ?_)
              · refine q_iconst (v := 0) hG rfl rfl ?_
                refine q_iload_n hG rfl rfl ?_
                refine q_iload hG rfl rfl ?_
                refine q_icmp_ge hG rfl ⟨by omega, by omega⟩ ⟨by omega, by omega⟩ (fun hc107 => ?_) (fun hc107 => ?_)
                · refine q_iconst (v := 0) hG rfl rfl ?_
                  refine q_iadd hG rfl ?_
                  refine q_putI0 hG rfl (by assumption) ?_
                  refine q_iconst (v := 0) hG rfl rfl ?_
                  refine q_iret0 hG rfl rfl ?_
                  have a1 : (if R (5 + 4 * x.toNat + 2) < lo then lo else R (5 + 4 * x.toNat + 2)) = (if R (5 + 4 * x.toNat + 2) < lo then lo else R (5 + 4 * x.toNat + 2)) := rfl
                  refine p0 hd ⟨z1, z2, z3⟩ (by (repeat' split) <;> omega) _ (RepM.of (fun j hj => ?_)) ?_ (((mfr.cell (by omega)).trans (mfr.cell (by omega))).trans (mfr.fld (by omega)))
                  · rw [st_row _ _ (by omega)]
                    have z := hR0 j hj
                    simp only [st, narR, true_and]
                    (repeat' split) <;> first | rfl | omega
                  · rw [st_same]
                    unfold df
                    (repeat' split) <;> omega
                · refine q_iconst (v := 1) hG rfl rfl ?_
                  refine q_goto hG rfl ?_
                  refine q_iadd hG rfl ?_
                  refine q_putI0 hG rfl (by assumption) ?_
                  refine q_iconst (v := 0) hG rfl rfl ?_
                  refine q_iret0 hG rfl rfl ?_
                  have a1 : (if R (5 + 4 * x.toNat + 2) < lo then lo else R (5 + 4 * x.toNat + 2)) = (if R (5 + 4 * x.toNat + 2) < lo then lo else R (5 + 4 * x.toNat + 2)) := rfl
                  refine p0 hd ⟨z1, z2, z3⟩ (by (repeat' split) <;> omega) _ (RepM.of (fun j hj => ?_)) ?_ (((mfr.cell (by omega)).trans (mfr.cell (by omega))).trans (mfr.fld (by omega)))
                  · rw [st_row _ _ (by omega)]
                    have z := hR0 j hj
                    simp only [st, narR, true_and]
                    (repeat' split) <;> first | rfl | omega
                  · rw [st_same]
                    unfold df
                    (repeat' split) <;> omega
              · refine q_iconst (v := 1) hG rfl rfl ?_
                refine q_goto hG rfl ?_
                refine q_iload_n hG rfl rfl ?_
                refine q_iload hG rfl rfl ?_
                refine q_icmp_ge hG rfl ⟨by omega, by omega⟩ ⟨by omega, by omega⟩ (fun hc107 => ?_) (fun hc107 => ?_)
                · refine q_iconst (v := 0) hG rfl rfl ?_
                  refine q_iadd hG rfl ?_
                  refine q_putI0 hG rfl (by assumption) ?_
                  refine q_iconst (v := 0) hG rfl rfl ?_
                  refine q_iret0 hG rfl rfl ?_
                  have a1 : (if R (5 + 4 * x.toNat + 2) < lo then lo else R (5 + 4 * x.toNat + 2)) = (if R (5 + 4 * x.toNat + 2) < lo then lo else R (5 + 4 * x.toNat + 2)) := rfl
                  refine p0 hd ⟨z1, z2, z3⟩ (by (repeat' split) <;> omega) _ (RepM.of (fun j hj => ?_)) ?_ (((mfr.cell (by omega)).trans (mfr.cell (by omega))).trans (mfr.fld (by omega)))
                  · rw [st_row _ _ (by omega)]
                    have z := hR0 j hj
                    simp only [st, narR, true_and]
                    (repeat' split) <;> first | rfl | omega
                  · rw [st_same]
                    unfold df
                    (repeat' split) <;> omega
                · refine q_iconst (v := 1) hG rfl rfl ?_
                  refine q_goto hG rfl ?_
                  refine q_iadd hG rfl ?_
                  refine q_putI0 hG rfl (by assumption) ?_
                  refine q_iconst (v := 0) hG rfl rfl ?_
                  refine q_iret0 hG rfl rfl ?_
                  have a1 : (if R (5 + 4 * x.toNat + 2) < lo then lo else R (5 + 4 * x.toNat + 2)) = (if R (5 + 4 * x.toNat + 2) < lo then lo else R (5 + 4 * x.toNat + 2)) := rfl
                  refine p0 hd ⟨z1, z2, z3⟩ (by (repeat' split) <;> omega) _ (RepM.of (fun j hj => ?_)) ?_ (((mfr.cell (by omega)).trans (mfr.cell (by omega))).trans (mfr.fld (by omega)))
                  · rw [st_row _ _ (by omega)]
                    have z := hR0 j hj
                    simp only [st, narR, true_and]
                    (repeat' split) <;> first | rfl | omega
                  · rw [st_same]
                    unfold df
                    (repeat' split) <;> omega
        · refine q_aload_n hG rfl rfl ?_
          refine q_iconst (v := 4) hG rfl rfl ?_
          refine q_iload hG rfl rfl ?_
          refine q_callV6 hG rfl rfl rfl (by assumption) (s_R_rejects hm0 ?_)
          refine q_iret0 hG rfl rfl ?_
          exact p3 hd ⟨z1, z2, z3⟩ (by (repeat' split) <;> omega) _ (by rw [st_ne _ _ (by omega), st_same]) (by rw [st_same]) ((mfr.fld (by omega)).trans (mfr.fld (by omega)))
    · refine q_if_ne hG rfl ⟨by omega, by omega⟩ (fun q => absurd q (by decide)) (fun _ => ?_)
      refine q_iconst (v := 2) hG rfl rfl ?_
      refine q_iret0 hG rfl rfl ?_
      exact p2 hd hr
  · rw [hR0 0 (by omega)] at hd
    refine q_if_ne hG rfl ⟨by omega, by omega⟩ (fun q => absurd q (by decide)) (fun _ => ?_)
    refine q_iconst (v := 1) hG rfl rfl ?_
    refine q_iret0 hG rfl rfl ?_
    exact p1 hd
