/-! the search for the first peace: the class -/
theorem s_S_better {d : Nat} {B : HP} {I : IM} {Post : Out → HP → Prop} (hX : LX B) {R : RW} (hR : RepC I 1 R) {q : Int} (hW : WfR q R) (hq : q ≤ 2000000000) (hz : I 153 1 = 0 ∨ I 153 1 = 1) (hh : hbd 2000 (I 156)) (hbb : I 153 1 = 1 → hbd 2000 (I 154)) (p1 : (I 153 1 = 0 ∨ ltL (R 0).toNat (I 156) (I 154)) → Post (.inl (some (.int (i3 1)))) (wI B I)) (p0 : I 153 1 = 1 → ¬ ltL (R 0).toNat (I 156) (I 154) → Post (.inl (some (.int (i3 0)))) (wI B I)) : Sp (d + 1) k_X6_isBetter [.ref 153, .int (i3 (R 0))] (wI B I) Post := by
  refine Sp_intro md_X6_isBetter rfl rfl (fun G hG => ?_)
  have hX0 := hX
  obtain ⟨x0, x1, x2, x3, x4, x5, x6, x7, x8, x9, x10, x11, x12, x13, x14, x15, x16, x17, x18, x19, x20, x21, x22, x23, x24, x25, x26, x27, x28, x29, x30, x31, x32, x33, x34, x35, x36, x37, x38, x39, x40, x41, x42, x43, x44⟩ := hX
  obtain ⟨d1, d2, d3, d4, hF, hBd, hCo⟩ := x10
  obtain ⟨f1, f2, f3, f4, f5⟩ := hF
  obtain ⟨g1, g2, g3, g4, g5⟩ := hBd
  obtain ⟨c1, c2, c3, c4, c5, c6, c7, c8, c9, c10, c11⟩ := hCo
  obtain ⟨t1, t2, t3, t4, t5⟩ := x12
  have hR0 := hR
  obtain ⟨r0, r1, r2, r3, r4, rd, rc, ry⟩ := hR
  have r1 : I 8 0 = R 1 := r1
  have r2 : I 8 1 = R 2 := r2
  have rd : ∀ k, k < 6 → I 3 k = R (5 + 4 * k) ∧ I 4 k = R (5 + 4 * k + 1) ∧ I 6 k = R (5 + 4 * k + 2) ∧ I 7 k = R (5 + 4 * k + 3) := rd
  have rc : ∀ k : Nat, (k : Int) < R 1 → I 9 k = R (29 + 5 * k) ∧ I 10 k = R (29 + 5 * k + 1) ∧ I 11 k = R (29 + 5 * k + 2) ∧ I 12 k = R (29 + 5 * k + 3) ∧ I 13 k = R (29 + 5 * k + 4) := rc
  have ry : ∀ k, k < 10 → 0 ≤ I 10 k ∧ I 10 k < 65536 := ry
  have hW0 := hW
  obtain ⟨w0, w1, w2, w3, w4, wd, wc⟩ := hW
  have lp : ∀ (mz : Nat) (k : Nat), (R 0).toNat - k = mz → k ≤ (R 0).toNat → I 153 1 = 1 → (∀ j, j < k → I 156 j = I 154 j) → G 11 [some (.ref 153), some (.int (i3 (R 0))), some (.int (i3 (k : Int)))] [] (wI B I) := by
    intro mz
    induction mz using Nat.strongRecOn with
    | ind mz ih =>
      intro k hme hk h1 heq
      refine q_iload_n hG rfl rfl ?_
      refine q_iload_n hG rfl rfl ?_
      refine q_icmp_ge hG rfl ⟨by omega, by omega⟩ ⟨by omega, by omega⟩ (fun hc13 => ?_) (fun hc13 => ?_)
      · refine q_iconst (v := 0) hG rfl rfl ?_
        refine q_iret5 hG rfl rfl (by decide) ?_
        refine p0 h1 (fun z => ?_)
        obtain ⟨e, e1, e2, e3⟩ := z
        by_cases hlt : e < k
        · have := heq e hlt; omega
        · first
          | omega
          | (by_cases hke : e = k
             · subst hke; omega
             · have := e3 k (by omega); omega)
      · have q1 := hh k (by omega)
        have q2 := hbb h1 k (by omega)
        refine q_aload_n hG rfl rfl ?_
        refine q_getR hG rfl (by assumption) (by assumption) ?_
        refine q_getR hG rfl (by assumption) (by assumption) ?_
        refine q_iload_n hG rfl rfl ?_
        refine q_ialdv (v := I 156 k) hG rfl (by assumption) ⟨by omega, by omega, by omega⟩ rfl ?_
        refine q_aload_n hG rfl rfl ?_
        refine q_getR hG rfl (by assumption) (by assumption) ?_
        refine q_iload_n hG rfl rfl ?_
        refine q_ialdv (v := I 154 k) hG rfl (by assumption) ⟨by omega, by omega, by omega⟩ rfl ?_
        refine q_icmp_eq hG rfl ⟨by omega, by omega⟩ ⟨by omega, by omega⟩ (fun hc31 => ?_) (fun hc31 => ?_)
        · refine q_iinc (c := 1) hG rfl rfl rfl rfl ?_
          refine q_goto hG rfl ?_
          exact ih _ (by omega) (k + 1) rfl (by omega) h1 (fun j hj => if e : j = k then by subst e; omega else heq j (by omega))
        · refine q_aload_n hG rfl rfl ?_
          refine q_getR hG rfl (by assumption) (by assumption) ?_
          refine q_getR hG rfl (by assumption) (by assumption) ?_
          refine q_iload_n hG rfl rfl ?_
          refine q_ialdv (v := I 156 k) hG rfl (by assumption) ⟨by omega, by omega, by omega⟩ rfl ?_
          refine q_aload_n hG rfl rfl ?_
          refine q_getR hG rfl (by assumption) (by assumption) ?_
          refine q_iload_n hG rfl rfl ?_
          refine q_ialdv (v := I 154 k) hG rfl (by assumption) ⟨by omega, by omega, by omega⟩ rfl ?_
          refine q_icmp_ge hG rfl ⟨by omega, by omega⟩ ⟨by omega, by omega⟩ (fun hc49 => ?_) (fun hc49 => ?_)
          · refine q_iconst (v := 0) hG rfl rfl ?_
            refine q_iret5 hG rfl rfl (by decide) ?_
            refine p0 h1 (fun z => ?_)
            obtain ⟨e, e1, e2, e3⟩ := z
            by_cases hlt : e < k
            · have := heq e hlt; omega
            · first
              | omega
              | (by_cases hke : e = k
                 · subst hke; omega
                 · have := e3 k (by omega); omega)
          · refine q_iconst (v := 1) hG rfl rfl ?_
            refine q_goto hG rfl ?_
            refine q_iret5 hG rfl rfl (by decide) ?_
            exact p1 (Or.inr ⟨k, by omega, by omega, heq⟩)
  show G 0 [some (.ref 153), some (.int (i3 (R 0))), none] [] (wI B I)
  refine q_aload_n hG rfl rfl ?_
  refine q_getI5 hG rfl (by assumption) ?_
  refine q_if_ne hG rfl ⟨by omega, by omega⟩ (fun hc4 => ?_) (fun hc4 => ?_)
  · refine q_iconst (v := 0) hG rfl rfl ?_
    refine q_istore_n hG rfl rfl ?_
    exact lp _ 0 rfl (by omega) (by omega) (fun j hj => by omega)
  · refine q_iconst (v := 1) hG rfl rfl ?_
    refine q_iret5 hG rfl rfl (by decide) ?_
    exact p1 (Or.inl (by omega))
theorem s_S_near {d : Nat} {B : HP} {I : IM} {Post : Out → HP → Prop} (hX : LX B) {R : RW} (hR : RepC I 1 R) {q : Int} (hW : WfR q R) (hq : q ≤ 2000000000) (hh : hbd 2000 (I 156)) (p1 : ∀ p : Nat, p < (R 1).toNat → nrP R (I 156) p → Post (.inl (some (.int (i3 (p : Int))))) (wI B I)) (p0 : (∀ k, k < (R 1).toNat → ¬ nrP R (I 156) k) → Post (.inl (some (.int (i3 (-1))))) (wI B I)) : Sp (d + 1) k_X6_tooNear [.ref 153, .ref 8] (wI B I) Post := by
  refine Sp_intro md_X6_tooNear rfl rfl (fun G hG => ?_)
  have hX0 := hX
  obtain ⟨x0, x1, x2, x3, x4, x5, x6, x7, x8, x9, x10, x11, x12, x13, x14, x15, x16, x17, x18, x19, x20, x21, x22, x23, x24, x25, x26, x27, x28, x29, x30, x31, x32, x33, x34, x35, x36, x37, x38, x39, x40, x41, x42, x43, x44⟩ := hX
  obtain ⟨d1, d2, d3, d4, hF, hBd, hCo⟩ := x10
  obtain ⟨f1, f2, f3, f4, f5⟩ := hF
  obtain ⟨g1, g2, g3, g4, g5⟩ := hBd
  obtain ⟨c1, c2, c3, c4, c5, c6, c7, c8, c9, c10, c11⟩ := hCo
  obtain ⟨t1, t2, t3, t4, t5⟩ := x12
  have hR0 := hR
  obtain ⟨r0, r1, r2, r3, r4, rd, rc, ry⟩ := hR
  have r1 : I 8 0 = R 1 := r1
  have r2 : I 8 1 = R 2 := r2
  have rd : ∀ k, k < 6 → I 3 k = R (5 + 4 * k) ∧ I 4 k = R (5 + 4 * k + 1) ∧ I 6 k = R (5 + 4 * k + 2) ∧ I 7 k = R (5 + 4 * k + 3) := rd
  have rc : ∀ k : Nat, (k : Int) < R 1 → I 9 k = R (29 + 5 * k) ∧ I 10 k = R (29 + 5 * k + 1) ∧ I 11 k = R (29 + 5 * k + 2) ∧ I 12 k = R (29 + 5 * k + 3) ∧ I 13 k = R (29 + 5 * k + 4) := rc
  have ry : ∀ k, k < 10 → 0 ≤ I 10 k ∧ I 10 k < 65536 := ry
  have hW0 := hW
  obtain ⟨w0, w1, w2, w3, w4, wd, wc⟩ := hW
  have lp : ∀ (mz : Nat) (k : Nat) (v3 : Option Value), (R 1).toNat - k = mz → k ≤ (R 1).toNat → (∀ j, j < k → ¬ nrP R (I 156) j) → (v3 = none ∨ ∃ z, v3 = some (.int z)) → G 2 [some (.ref 153), some (.ref 8), some (.int (i3 (k : Int))), v3] [] (wI B I) := by
    intro mz
    induction mz using Nat.strongRecOn with
    | ind mz ih =>
      intro k v3 hme hk hno h3
      refine q_iload_n hG rfl rfl ?_
      refine q_aload_n hG rfl rfl ?_
      refine q_getI0v (v := R 1) hG rfl (by assumption) (r1) ?_
      refine q_icmp_ge hG rfl ⟨by omega, by omega⟩ ⟨by omega, by omega⟩ (fun hc7 => ?_) (fun hc7 => ?_)
      · refine q_iconst (v := -1) hG rfl rfl ?_
        refine q_iret0 hG rfl rfl ?_
        exact p0 (fun j hj => hno j (by omega))
      · obtain ⟨v1, v2, v3e, v4, v5⟩ := rc k (by omega)
        obtain ⟨y1, y2, y3, y4, y5, y6, y7⟩ := wc k (by omega)
        have q1 := hh (R (29 + 5 * k + 2)).toNat (by omega)
        have q2 := hh (R (29 + 5 * k + 3)).toNat (by omega)
        refine q_aload_n hG rfl rfl ?_
        refine q_getR hG rfl (by assumption) (by assumption) ?_
        refine q_getR hG rfl (by assumption) (by assumption) ?_
        refine q_aload_n hG rfl rfl ?_
        refine q_getR hG rfl (by assumption) (by assumption) ?_
        refine q_iload_n hG rfl rfl ?_
        refine q_ialdv (v := R (29 + 5 * k + 2)) hG rfl (by assumption) ⟨by omega, by omega, by omega⟩ (v3e) ?_
        refine q_ialdv (v := I 156 (R (29 + 5 * k + 2)).toNat) hG rfl (by assumption) ⟨by omega, by omega, by omega⟩ rfl ?_
        refine q_aload_n hG rfl rfl ?_
        refine q_getR hG rfl (by assumption) (by assumption) ?_
        refine q_getR hG rfl (by assumption) (by assumption) ?_
        refine q_aload_n hG rfl rfl ?_
        refine q_getR hG rfl (by assumption) (by assumption) ?_
        refine q_iload_n hG rfl rfl ?_
        refine q_ialdv (v := R (29 + 5 * k + 3)) hG rfl (by assumption) ⟨by omega, by omega, by omega⟩ (v4) ?_
        refine q_ialdv (v := I 156 (R (29 + 5 * k + 3)).toNat) hG rfl (by assumption) ⟨by omega, by omega, by omega⟩ rfl ?_
        refine q_isub hG rfl ?_
        refine q_abs hG rfl ⟨by omega, by omega⟩ rfl ?_
        refine q_istore_n hG rfl rfl ?_
        refine q_aload_n hG rfl rfl ?_
        refine q_getR hG rfl (by assumption) (by assumption) ?_
        refine q_iload_n hG rfl rfl ?_
        refine q_caldv (v := R (29 + 5 * k + 1)) hG rfl (by assumption) ⟨by omega, by omega, by omega⟩ (v2) ?_
        refine q_bipush (v := 35) hG rfl rfl ?_
        refine q_icmp_ne hG rfl ⟨by omega, by omega⟩ ⟨by omega, by omega⟩ (fun hc51 => ?_) (fun hc51 => ?_)
        · refine q_iinc (c := 1) hG rfl rfl rfl rfl ?_
          refine q_goto hG rfl ?_
          have nn : ¬ nrP R (I 156) k := (fun z => by
            obtain ⟨z1, z2, z3⟩ := z
            have z1 : R (29 + 5 * k + 1) = 35 := z1
            have z2 : I 156 (R (29 + 5 * k + 2)).toNat - I 156 (R (29 + 5 * k + 3)).toNat < R (29 + 5 * k + 4) := z2
            have z3 : I 156 (R (29 + 5 * k + 3)).toNat - I 156 (R (29 + 5 * k + 2)).toNat < R (29 + 5 * k + 4) := z3
            omega)
          exact ih _ (by omega) (k + 1) _ rfl (by omega) (fun j hj => if e : j = k then by rw [e]; exact nn else hno j (by omega)) (Or.inr ⟨_, rfl⟩)
        · refine q_iload_n hG rfl rfl ?_
          refine q_aload_n hG rfl rfl ?_
          refine q_getR hG rfl (by assumption) (by assumption) ?_
          refine q_iload_n hG rfl rfl ?_
          refine q_ialdv (v := R (29 + 5 * k + 4)) hG rfl (by assumption) ⟨by omega, by omega, by omega⟩ (v5) ?_
          refine q_icmp_ge hG rfl ⟨by split <;> omega, by split <;> omega⟩ ⟨by omega, by omega⟩ (fun hc61 => ?_) (fun hc61 => ?_)
          · refine q_iinc (c := 1) hG rfl rfl rfl rfl ?_
            refine q_goto hG rfl ?_
            have nn : ¬ nrP R (I 156) k := (fun z => by
              obtain ⟨z1, z2, z3⟩ := z
              have z1 : R (29 + 5 * k + 1) = 35 := z1
              have z2 : I 156 (R (29 + 5 * k + 2)).toNat - I 156 (R (29 + 5 * k + 3)).toNat < R (29 + 5 * k + 4) := z2
              have z3 : I 156 (R (29 + 5 * k + 3)).toNat - I 156 (R (29 + 5 * k + 2)).toNat < R (29 + 5 * k + 4) := z3
              omega)
            exact ih _ (by omega) (k + 1) _ rfl (by omega) (fun j hj => if e : j = k then by rw [e]; exact nn else hno j (by omega)) (Or.inr ⟨_, rfl⟩)
          · refine q_iload_n hG rfl rfl ?_
            refine q_iret0 hG rfl rfl ?_
            refine p1 k (by omega) ⟨by show R (29 + 5 * k + 1) = 35; omega, ?_, ?_⟩
            · show I 156 (R (29 + 5 * k + 2)).toNat - I 156 (R (29 + 5 * k + 3)).toNat < R (29 + 5 * k + 4)
              omega
            · show I 156 (R (29 + 5 * k + 3)).toNat - I 156 (R (29 + 5 * k + 2)).toNat < R (29 + 5 * k + 4)
              omega
  show G 0 [some (.ref 153), some (.ref 8), none, none] [] (wI B I)
  refine q_iconst (v := 0) hG rfl rfl ?_
  refine q_istore_n hG rfl rfl ?_
  exact lp _ 0 none rfl (by omega) (fun j hj => by omega) (Or.inl rfl)
