/-! the reference: a change that is kept, and the changes as they are called -/
theorem s_R_kept0 {d : Nat} {B : HP} {I : IM} {Post : Out → HP → Prop} {m : Nat} (hm : oM B m) {R R2 : RW} {v : Int} {c : Int} {h : Nat → RW} {sv : Int} {SR : RW} {eo why det cau : Int} (hB : BSt I m R c h sv SR eo why det cau) (hR2 : RepM I m 0 R2) (hv : I m 4 = v) (hp : ∀ J : IM, MSt J m R2 (c8 c) (psh R h) sv SR eo why det cau → J m 0 = 0 → mfT I J m → Post (.inl (some (.int (i3 v)))) (wI B J)) : Sp (d + 3) k_X9_kept [.ref m, .int (i3 (0))] (wI B I) Post := by
  refine Sp_intro md_X9_kept rfl rfl (fun G hG => ?_)
  have hm0 := hm
  obtain ⟨n1, n2, n3, n4, n5, n6, n7, n8, n9, n10, n11⟩ := hm
  obtain ⟨a, b, e0, e, f, g, i, j⟩ := hB
  obtain ⟨b0, b1, b2⟩ := b
  have c8b : 1 ≤ c8 c ∧ c8 c ≤ 8 := by unfold c8; split <;> omega
  have lj : ∀ (K : IM) (v2 : Option Value), (∀ k, k ≠ 0 → k ≠ 2 → K m k = I m k) → K m 0 = 0 → K m 2 = c8 c - 1 → (∀ j : Nat, (j : Int) < c8 c - 1 → RepM K m ((c8 c - 1).toNat - j) (h j)) → (∀ j, (j < 79 ∨ 711 ≤ j) → K (m + 1) j = I (m + 1) j) → (∀ a, a ≠ m → a ≠ m + 1 → K a = I a) → G 59 [some (.ref m), some (.int (i3 0)), v2] [] (wI B K) := by
    intro K v2 k1 k0 k2 kh kr ko
    refine q_aload_n hG rfl rfl ?_
    refine q_dup hG rfl rfl ?_
    refine q_getI0v (v := c8 c - 1) hG rfl (by assumption) (k2) ?_
    refine q_iconst (v := 1) hG rfl rfl ?_
    refine q_iadd hG rfl ?_
    refine q_putI0 hG rfl (by assumption) ?_
    refine q_aload_n hG rfl rfl ?_
    refine q_bipush (v := 10) hG rfl rfl ?_
    refine q_aload_n hG rfl rfl ?_
    refine q_getI0v (v := ((c8 c).toNat : Int)) hG rfl (by assumption) (by rw [st_same]; omega) ?_
    refine q_callV6 hG rfl rfl rfl (by assumption) (s_R_copies (a := 10) (b := (c8 c).toNat) hm0 (by decide) (by omega) (fun J1 a1 a2 a3 => ?_))
    have J1m : J1 m = st K m 2 (c8 c - 1 + 1) m := a3 m (by omega)
    refine q_aload_n hG rfl rfl ?_
    refine q_getI0v (v := v) hG rfl (by assumption) (by rw [J1m, st_ne _ _ (by omega), k1 4 (by omega) (by omega)]; exact hv) ?_
    refine q_iret0 hG rfl rfl ?_
    have jf : ∀ k, k ≠ 0 → k ≠ 2 → J1 m k = I m k := fun k h0 h2 => by rw [J1m, st_ne _ _ (by omega)]; exact k1 k h0 h2
    have js : ∀ k, (k < 79 * (c8 c).toNat ∨ 79 * (c8 c).toNat + 79 ≤ k) → J1 (m + 1) k = K (m + 1) k := fun k hk => by rw [a2 k hk, st_row _ _ (by omega)]
    refine hp J1 ⟨?_, ⟨by rw [J1m, st_same]; omega, by omega, fun z hz => ?_⟩, by rw [jf 3 (by omega) (by omega)]; exact e0, fun z => (e z).row (fun k h1 h2 => by rw [js k (by omega)]; exact kr k (by omega)), by rw [jf 19 (by omega) (by omega)]; exact f, by rw [jf 5 (by omega) (by omega)]; exact g, by rw [jf 6 (by omega) (by omega)]; exact i, by rw [jf 7 (by omega) (by omega)]; exact j⟩ (by rw [J1m, st_ne _ _ (by omega)]; exact k0) ⟨fun k p q => by rw [a3 k q, st_row _ _ p]; exact ko k p q, fun k hk => jf k (by omega) (by omega)⟩
    · exact hR2.row (fun k h1 h2 => by rw [js k (by omega)]; exact kr k (by omega))
    · unfold psh
      by_cases hz0 : z = 0
      · rw [if_pos hz0, hz0, show (c8 c).toNat - 0 = (c8 c).toNat by omega]
        intro k hk
        rw [a1 k hk, st_row _ _ (by omega), kr _ (by omega)]
        exact a k hk
      · rw [if_neg hz0]
        have q := kh (z - 1) (by omega)
        rw [show (c8 c - 1).toNat - (z - 1) = (c8 c).toNat - z by omega] at q
        exact q.row (fun k h1 h2 => js k (by omega))
  have lp : ∀ (mz : Nat) (k : Nat) (K : IM), 8 - k = mz → 1 ≤ k ∧ k ≤ 8 → c = 8 → (∀ z, z ≠ 0 → K m z = I m z) → K m 0 = 0 → (∀ r, 1 ≤ r → r < k → ∀ z, z < 79 → K (m + 1) (79 * r + z) = I (m + 1) (79 * (r + 1) + z)) → (∀ z, (z < 79 ∨ 79 * k ≤ z) → K (m + 1) z = I (m + 1) z) → (∀ a, a ≠ m → a ≠ m + 1 → K a = I a) → G 29 [some (.ref m), some (.int (i3 0)), some (.int (i3 (k : Int)))] [] (wI B K) := by
    intro mz
    induction mz using Nat.strongRecOn with
    | ind mz ih =>
      intro k K hme hk h8 k1 k0 ka kb ko
      refine q_iload_n hG rfl rfl ?_
      refine q_bipush (v := 8) hG rfl rfl ?_
      refine q_icmp_ge hG rfl ⟨by omega, by omega⟩ ⟨by omega, by omega⟩ (fun hc32 => ?_) (fun hc32 => ?_)
      · refine q_aload_n hG rfl rfl ?_
        refine q_dup hG rfl rfl ?_
        refine q_getI0v (v := 8) hG rfl (by assumption) (by rw [k1 2 (by omega), b0]; exact h8) ?_
        refine q_iconst (v := 1) hG rfl rfl ?_
        refine q_isub hG rfl ?_
        refine q_putI0 hG rfl (by assumption) ?_
        refine lj _ _ (fun z h0 h2 => by rw [st_ne _ _ (by omega)]; exact k1 z h0) (by rw [st_ne _ _ (by omega)]; exact k0) (by rw [st_same, h8]; rfl) (fun z hz => ?_) (fun z hz => by rw [st_row _ _ (by omega)]; exact kb z (by omega)) (fun a p q => by rw [st_row _ _ p]; exact ko a p q)
        have e8 : c8 c = 8 := by rw [h8]; rfl
        rw [e8] at hz ⊢
        have q := b2 z (by omega)
        intro y hy
        have := ka ((8 - 1 : Int).toNat - z) (by omega) (by omega) y hy
        rw [st_row _ _ (by omega), this, ← q y hy]
        congr 2
        omega
      · refine q_aload_n hG rfl rfl ?_
        refine q_iload_n hG rfl rfl ?_
        refine q_iconst (v := 1) hG rfl rfl ?_
        refine q_iadd hG rfl ?_
        refine q_iload_n hG rfl rfl ?_
        refine q_callV6 hG rfl rfl rfl (by assumption) (s_R_copies (a := k + 1) (b := k) hm0 (by omega) (by omega) (fun J1 a1 a2 a3 => ?_))
        have J1m : J1 m = K m := a3 m (by omega)
        refine q_iinc (c := 1) hG rfl rfl rfl rfl ?_
        refine q_goto hG rfl ?_
        refine ih _ (by omega) (k + 1) J1 rfl (by omega) h8 (fun z hz => by rw [J1m]; exact k1 z hz) (by rw [J1m]; exact k0) (fun r h1 h2 z hz => ?_) (fun z hz => by rw [a2 z (by omega)]; exact kb z (by omega)) (fun a p q => by rw [a3 a q]; exact ko a p q)
        by_cases er : r = k
        · subst er
          rw [a1 z hz, kb _ (by omega)]
        · rw [a2 _ (by omega)]; exact ka r h1 (by omega) z hz
  show G 0 [some (.ref m), some (.int (i3 (0))), none] [] (wI B I)
  refine q_aload_n hG rfl rfl ?_
  refine q_iload_n hG rfl rfl ?_
  refine q_putI0 hG rfl (by assumption) ?_
  refine q_iload_n hG rfl rfl ?_
  refine q_if_eq hG rfl ⟨by omega, by omega⟩ (fun _ => ?_) (fun q => absurd (by decide) q)
  refine q_aload_n hG rfl rfl ?_
  refine q_getI0v (v := c) hG rfl (by assumption) (by rw [st_ne _ _ (by omega)]; exact b0) ?_
  refine q_bipush (v := 8) hG rfl rfl ?_
  refine q_icmp_ne hG rfl ⟨by omega, by omega⟩ ⟨by omega, by omega⟩ (fun hc24 => ?_) (fun hc24 => ?_)
  · have h8 : ¬ c = 8 := by omega
    have e8 : c8 c = c + 1 := by unfold c8; rw [if_neg (by omega)]
    refine lj _ _ (fun z h0 h2 => by rw [st_ne _ _ (by omega)]) (by rw [st_same]) (by rw [st_ne _ _ (by omega), b0, e8]; omega) (fun z hz => ?_) (fun z hz => by rw [st_row _ _ (by omega)]) (fun a p q => st_row _ _ p)
    rw [e8] at hz ⊢
    rw [show (c + 1 - 1).toNat = c.toNat by omega]
    exact (b2 z (by omega)).row (fun k h1 h2 => by rw [st_row _ _ (by omega)])
  · refine q_iconst (v := 1) hG rfl rfl ?_
    refine q_istore_n hG rfl rfl ?_
    exact lp _ 1 _ rfl (by omega) (by omega) (fun z hz => st_ne _ _ (by omega)) (st_same _ _ _ _) (fun r h1 h2 => by omega) (fun z hz => by rw [st_row _ _ (by omega)]) (fun a p q => st_row _ _ p)
theorem s_R_ends0 {d : Nat} {B : HP} {I : IM} {Post : Out → HP → Prop} {m : Nat} (hm : oM B m) {R R2 : RW} {v x1 x2 x3 x4 : Int} {c : Int} {h : Nat → RW} {sv : Int} {SR : RW} {eo why det cau : Int} (hB : BSt I m R c h sv SR eo why det cau) (hR2 : RepM I m 0 R2) (hv : I m 4 = v) (hp : ∀ J : IM, MSt J m R2 (c8 c) (psh R h) sv SR eo why det cau → J m 0 = 0 → mfT I J m → Post (.inl (some (.int (i3 v)))) (wI B J)) : Sp (d + 4) k_X9_ends [.ref m, .int (i3 (0)), .int (i3 (x1)), .int (i3 (x2)), .int (i3 (x3)), .int (i3 (x4))] (wI B I) Post := by
  refine Sp_intro md_X9_ends rfl rfl (fun G hG => ?_)
  have hm0 := hm
  obtain ⟨n1, n2, n3, n4, n5, n6, n7, n8, n9, n10, n11⟩ := hm
  show G 0 [some (.ref m), some (.int (i3 (0))), some (.int (i3 (x1))), some (.int (i3 (x2))), some (.int (i3 (x3))), some (.int (i3 (x4)))] [] (wI B I)
  refine q_iload_n hG rfl rfl ?_
  refine q_iconst (v := 3) hG rfl rfl ?_
  refine q_icmp_ne hG rfl ⟨by omega, by omega⟩ ⟨by omega, by omega⟩ (fun _ => ?_) (fun q => absurd (by decide) q)
  refine q_aload_n hG rfl rfl ?_
  refine q_iload_n hG rfl rfl ?_
  refine q_iconst (v := 1) hG rfl rfl ?_
  refine q_icmp_ne hG rfl ⟨by omega, by omega⟩ ⟨by omega, by omega⟩ (fun _ => ?_) (fun q => absurd (by decide) q)
  refine q_iload_n hG rfl rfl ?_
  refine q_iconst (v := 2) hG rfl rfl ?_
  refine q_icmp_ne hG rfl ⟨by omega, by omega⟩ ⟨by omega, by omega⟩ (fun _ => ?_) (fun q => absurd (by decide) q)
  refine q_iload_n hG rfl rfl ?_
  refine q_iconst (v := 3) hG rfl rfl ?_
  refine q_icmp_ne hG rfl ⟨by omega, by omega⟩ ⟨by omega, by omega⟩ (fun _ => ?_) (fun q => absurd (by decide) q)
  refine q_iload_n hG rfl rfl ?_
  refine q_iconst (v := 4) hG rfl rfl ?_
  refine q_icmp_ne hG rfl ⟨by omega, by omega⟩ ⟨by omega, by omega⟩ (fun _ => ?_) (fun q => absurd (by decide) q)
  refine q_iconst (v := 0) hG rfl rfl ?_
  refine q_callV6 hG rfl rfl rfl (by assumption) (s_R_kept0 hm0 hB hR2 hv (fun J q1 q2 q3 => ?_))
  refine q_iret0 hG rfl rfl ?_
  exact hp J q1 q2 q3
theorem s_R_ends1 {d : Nat} {B : HP} {I : IM} {Post : Out → HP → Prop} {m : Nat} (hm : oM B m) {R : RW} {x1 x2 x3 x4 : Int} {c : Int} {h : Nat → RW} {sv : Int} {SR : RW} {eo why det cau : Int} (hx : r32 x1 ∧ x1 ≠ 0) (hB : BSt I m R c h sv SR eo why det cau) (hp : ∀ J : IM, MSt J m R c h sv SR eo why det cau → J m 0 = x1 → mfT I J m → Post (.inl (some (.int (i3 0)))) (wI B J)) : Sp (d + 3) k_X9_ends [.ref m, .int (i3 (1)), .int (i3 (x1)), .int (i3 (x2)), .int (i3 (x3)), .int (i3 (x4))] (wI B I) Post := by
  refine Sp_intro md_X9_ends rfl rfl (fun G hG => ?_)
  have hm0 := hm
  obtain ⟨n1, n2, n3, n4, n5, n6, n7, n8, n9, n10, n11⟩ := hm
  show G 0 [some (.ref m), some (.int (i3 (1))), some (.int (i3 (x1))), some (.int (i3 (x2))), some (.int (i3 (x3))), some (.int (i3 (x4)))] [] (wI B I)
  refine q_iload_n hG rfl rfl ?_
  refine q_iconst (v := 3) hG rfl rfl ?_
  refine q_icmp_ne hG rfl ⟨by omega, by omega⟩ ⟨by omega, by omega⟩ (fun _ => ?_) (fun q => absurd (by decide) q)
  refine q_aload_n hG rfl rfl ?_
  refine q_iload_n hG rfl rfl ?_
  refine q_iconst (v := 1) hG rfl rfl ?_
  refine q_icmp_ne hG rfl ⟨by omega, by omega⟩ ⟨by omega, by omega⟩ (fun q => absurd q (by decide)) (fun _ => ?_)
  refine q_iload_n hG rfl rfl ?_
  refine q_goto hG rfl ?_
  refine q_callV6 hG rfl rfl rfl (by assumption) (s_R_keptN hm0 hx.1 hx.2 hB (fun J q1 q2 q3 => ?_))
  refine q_iret0 hG rfl rfl ?_
  exact hp J q1 q2 q3
theorem s_R_ends2 {d : Nat} {B : HP} {I : IM} {Post : Out → HP → Prop} {m : Nat} (hm : oM B m) {R : RW} {x1 x2 x3 x4 : Int} {c : Int} {h : Nat → RW} {sv : Int} {SR : RW} {eo why det cau : Int} (hx : r32 x2 ∧ x2 ≠ 0) (hB : BSt I m R c h sv SR eo why det cau) (hp : ∀ J : IM, MSt J m R c h sv SR eo why det cau → J m 0 = x2 → mfT I J m → Post (.inl (some (.int (i3 0)))) (wI B J)) : Sp (d + 3) k_X9_ends [.ref m, .int (i3 (2)), .int (i3 (x1)), .int (i3 (x2)), .int (i3 (x3)), .int (i3 (x4))] (wI B I) Post := by
  refine Sp_intro md_X9_ends rfl rfl (fun G hG => ?_)
  have hm0 := hm
  obtain ⟨n1, n2, n3, n4, n5, n6, n7, n8, n9, n10, n11⟩ := hm
  show G 0 [some (.ref m), some (.int (i3 (2))), some (.int (i3 (x1))), some (.int (i3 (x2))), some (.int (i3 (x3))), some (.int (i3 (x4)))] [] (wI B I)
  refine q_iload_n hG rfl rfl ?_
  refine q_iconst (v := 3) hG rfl rfl ?_
  refine q_icmp_ne hG rfl ⟨by omega, by omega⟩ ⟨by omega, by omega⟩ (fun _ => ?_) (fun q => absurd (by decide) q)
  refine q_aload_n hG rfl rfl ?_
  refine q_iload_n hG rfl rfl ?_
  refine q_iconst (v := 1) hG rfl rfl ?_
  refine q_icmp_ne hG rfl ⟨by omega, by omega⟩ ⟨by omega, by omega⟩ (fun _ => ?_) (fun q => absurd (by decide) q)
  refine q_iload_n hG rfl rfl ?_
  refine q_iconst (v := 2) hG rfl rfl ?_
  refine q_icmp_ne hG rfl ⟨by omega, by omega⟩ ⟨by omega, by omega⟩ (fun q => absurd q (by decide)) (fun _ => ?_)
  refine q_iload_n hG rfl rfl ?_
  refine q_goto hG rfl ?_
  refine q_callV6 hG rfl rfl rfl (by assumption) (s_R_keptN hm0 hx.1 hx.2 hB (fun J q1 q2 q3 => ?_))
  refine q_iret0 hG rfl rfl ?_
  exact hp J q1 q2 q3
theorem s_R_ends4 {d : Nat} {B : HP} {I : IM} {Post : Out → HP → Prop} {m : Nat} (hm : oM B m) {R : RW} {x1 x2 x3 x4 : Int} {c : Int} {h : Nat → RW} {sv : Int} {SR : RW} {eo why det cau : Int} (hx : r32 x4 ∧ x4 ≠ 0) (hB : BSt I m R c h sv SR eo why det cau) (hp : ∀ J : IM, MSt J m R c h sv SR eo why det cau → J m 0 = x4 → mfT I J m → Post (.inl (some (.int (i3 0)))) (wI B J)) : Sp (d + 3) k_X9_ends [.ref m, .int (i3 (4)), .int (i3 (x1)), .int (i3 (x2)), .int (i3 (x3)), .int (i3 (x4))] (wI B I) Post := by
  refine Sp_intro md_X9_ends rfl rfl (fun G hG => ?_)
  have hm0 := hm
  obtain ⟨n1, n2, n3, n4, n5, n6, n7, n8, n9, n10, n11⟩ := hm
  show G 0 [some (.ref m), some (.int (i3 (4))), some (.int (i3 (x1))), some (.int (i3 (x2))), some (.int (i3 (x3))), some (.int (i3 (x4)))] [] (wI B I)
  refine q_iload_n hG rfl rfl ?_
  refine q_iconst (v := 3) hG rfl rfl ?_
  refine q_icmp_ne hG rfl ⟨by omega, by omega⟩ ⟨by omega, by omega⟩ (fun _ => ?_) (fun q => absurd (by decide) q)
  refine q_aload_n hG rfl rfl ?_
  refine q_iload_n hG rfl rfl ?_
  refine q_iconst (v := 1) hG rfl rfl ?_
  refine q_icmp_ne hG rfl ⟨by omega, by omega⟩ ⟨by omega, by omega⟩ (fun _ => ?_) (fun q => absurd (by decide) q)
  refine q_iload_n hG rfl rfl ?_
  refine q_iconst (v := 2) hG rfl rfl ?_
  refine q_icmp_ne hG rfl ⟨by omega, by omega⟩ ⟨by omega, by omega⟩ (fun _ => ?_) (fun q => absurd (by decide) q)
  refine q_iload_n hG rfl rfl ?_
  refine q_iconst (v := 3) hG rfl rfl ?_
  refine q_icmp_ne hG rfl ⟨by omega, by omega⟩ ⟨by omega, by omega⟩ (fun _ => ?_) (fun q => absurd (by decide) q)
  refine q_iload_n hG rfl rfl ?_
  refine q_iconst (v := 4) hG rfl rfl ?_
  refine q_icmp_ne hG rfl ⟨by omega, by omega⟩ ⟨by omega, by omega⟩ (fun q => absurd q (by decide)) (fun _ => ?_)
  refine q_iload hG rfl rfl ?_
  refine q_goto hG rfl ?_
  refine q_callV6 hG rfl rfl rfl (by assumption) (s_R_keptN hm0 hx.1 hx.2 hB (fun J q1 q2 q3 => ?_))
  refine q_iret0 hG rfl rfl ?_
  exact hp J q1 q2 q3
theorem s_R_ends3 {d : Nat} {B : HP} {I : IM} {Post : Out → HP → Prop} {m : Nat} (hm : oM B m) {R : RW} {x1 x2 x3 x4 r e : Int} {c : Int} {h : Nat → RW} {sv : Int} {SR : RW} {eo why det cau : Int} (hx : r32 x3 ∧ x3 ≠ 0) (hB : BSt I m R c h sv SR eo why det cau) (hr : I m 8 = r) (he : I m 9 = e) (hp : ∀ J : IM, MSt J m R c h sv SR eo r e cau → J m 0 = x3 → mfT I J m → Post (.inl (some (.int (i3 0)))) (wI B J)) : Sp (d + 3) k_X9_ends [.ref m, .int (i3 (3)), .int (i3 (x1)), .int (i3 (x2)), .int (i3 (x3)), .int (i3 (x4))] (wI B I) Post := by
  refine Sp_intro md_X9_ends rfl rfl (fun G hG => ?_)
  have hm0 := hm
  obtain ⟨n1, n2, n3, n4, n5, n6, n7, n8, n9, n10, n11⟩ := hm
  show G 0 [some (.ref m), some (.int (i3 (3))), some (.int (i3 (x1))), some (.int (i3 (x2))), some (.int (i3 (x3))), some (.int (i3 (x4)))] [] (wI B I)
  refine q_iload_n hG rfl rfl ?_
  refine q_iconst (v := 3) hG rfl rfl ?_
  refine q_icmp_ne hG rfl ⟨by omega, by omega⟩ ⟨by omega, by omega⟩ (fun q => absurd q (by decide)) (fun _ => ?_)
  refine q_aload_n hG rfl rfl ?_
  refine q_aload_n hG rfl rfl ?_
  refine q_getI0v (v := r) hG rfl (by assumption) (hr) ?_
  refine q_putI0 hG rfl (by assumption) ?_
  refine q_aload_n hG rfl rfl ?_
  refine q_aload_n hG rfl rfl ?_
  refine q_getI0v (v := e) hG rfl (by assumption) (by rw [st_ne _ _ (by omega)]; exact he) ?_
  refine q_putI0 hG rfl (by assumption) ?_
  refine q_aload_n hG rfl rfl ?_
  refine q_iload_n hG rfl rfl ?_
  refine q_iconst (v := 1) hG rfl rfl ?_
  refine q_icmp_ne hG rfl ⟨by omega, by omega⟩ ⟨by omega, by omega⟩ (fun _ => ?_) (fun q => absurd (by decide) q)
  refine q_iload_n hG rfl rfl ?_
  refine q_iconst (v := 2) hG rfl rfl ?_
  refine q_icmp_ne hG rfl ⟨by omega, by omega⟩ ⟨by omega, by omega⟩ (fun _ => ?_) (fun q => absurd (by decide) q)
  refine q_iload_n hG rfl rfl ?_
  refine q_iconst (v := 3) hG rfl rfl ?_
  refine q_icmp_ne hG rfl ⟨by omega, by omega⟩ ⟨by omega, by omega⟩ (fun q => absurd q (by decide)) (fun _ => ?_)
  refine q_iload hG rfl rfl ?_
  refine q_goto hG rfl ?_
  have hB3 : BSt (st (st I m 5 r) m 6 e) m R c h sv SR eo r e cau := by
    obtain ⟨a, b, e0, e1, f, g, i, j⟩ := hB
    exact ⟨a.row (fun k h1 h2 => by rw [st_row _ _ (by omega), st_row _ _ (by omega)]), b.keep (by rw [st_ne _ _ (by omega), st_ne _ _ (by omega)]) (fun k h1 h2 => by rw [st_row _ _ (by omega), st_row _ _ (by omega)]), by rw [st_ne _ _ (by omega), st_ne _ _ (by omega)]; exact e0, fun z => (e1 z).row (fun k h1 h2 => by rw [st_row _ _ (by omega), st_row _ _ (by omega)]), by rw [st_ne _ _ (by omega), st_ne _ _ (by omega)]; exact f, by rw [st_ne _ _ (by omega), st_same], st_same _ _ _ _, by rw [st_ne _ _ (by omega), st_ne _ _ (by omega)]; exact j⟩
  refine q_callV6 hG rfl rfl rfl (by assumption) (s_R_keptN hm0 hx.1 hx.2 hB3 (fun J q1 q2 q3 => ?_))
  refine q_iret0 hG rfl rfl ?_
  exact hp J q1 q2 ⟨fun a p q => by rw [q3.1 a p q, st_row _ _ p, st_row _ _ p], fun k hk => by rw [q3.2 k hk, st_ne _ _ (by omega), st_ne _ _ (by omega)]⟩
