/-! the search for the first peace: the class -/
theorem s_S_better {d : Nat} {B : HP} {I : IM} {Post : Out → HP → Prop} (hX : LX B) {R : RW} (hR : RepC I 1 R) {q : Int} (hW : WfR q R) (hq : q ≤ 2000000000) (hz : I 153 1 = 0 ∨ I 153 1 = 1) (hh : hbd 2000 (I 156)) (hbb : I 153 1 = 1 → hbd 2000 (I 154)) (p1 : (I 153 1 = 0 ∨ ltL (R 0).toNat (I 156) (I 154)) → Post (.inl (some (.int (i3 1)))) (wI B I)) (p0 : I 153 1 = 1 → ¬ ltL (R 0).toNat (I 156) (I 154) → Post (.inl (some (.int (i3 0)))) (wI B I)) : Sp (d + 1) k_X6_isBetter [.ref 153, .int (i3 (R 0))] (wI B I) Post := by
  refine Sp_intro md_X6_isBetter rfl rfl (fun G hG => ?_)
  have hX0 := hX
  obtain ⟨x0, x1, x2, x3, x4, x5, x6, x7, x8, x9, x10, x11, x12, x13, x14, x15, x16, x17, x18, x19, x20, x21, x22, x23, x24, x25, x26, x27, x28, x29, x30, x31, x32, x33, x34, x35, x36, x37, x38, x39, x40, x41, x42, x43, x44⟩ := hX
  obtain ⟨d1, d2, d3, d4, hF, hBd, hCo⟩ := x10
  obtain ⟨f1, f2, f3, f4, f5⟩ := hF
  obtain ⟨g1, g2, g3, g4, g5⟩ := hBd
  obtain ⟨c1, c2, c3, c4, c5, c6, c7, c8, c9, c10, c11⟩ := hCo
  obtain ⟨t1, t2, t3, t4, t5⟩ := x12
  have hR0 := hR
  obtain ⟨r0, r1, r2, r3, r4, rd, rc, ry⟩ := hR
  have r1 : I 8 0 = R 1 := r1
  have r2 : I 8 1 = R 2 := r2
  have rd : ∀ k, k < 6 → I 3 k = R (5 + 4 * k) ∧ I 4 k = R (5 + 4 * k + 1) ∧ I 6 k = R (5 + 4 * k + 2) ∧ I 7 k = R (5 + 4 * k + 3) := rd
  have rc : ∀ k : Nat, (k : Int) < R 1 → I 9 k = R (29 + 5 * k) ∧ I 10 k = R (29 + 5 * k + 1) ∧ I 11 k = R (29 + 5 * k + 2) ∧ I 12 k = R (29 + 5 * k + 3) ∧ I 13 k = R (29 + 5 * k + 4) := rc
  have ry : ∀ k, k < 10 → 0 ≤ I 10 k ∧ I 10 k < 65536 := ry
  have hW0 := hW
  obtain ⟨w0, w1, w2, w3, w4, wd, wc⟩ := hW
  have lp : ∀ (mz : Nat) (k : Nat), (R 0).toNat - k = mz → k ≤ (R 0).toNat → I 153 1 = 1 → (∀ j, j < k → I 156 j = I 154 j) → G 11 [some (.ref 153), some (.int (i3 (R 0))), some (.int (i3 (k : Int)))] [] (wI B I) := by
    intro mz
    induction mz using Nat.strongRecOn with
    | ind mz ih =>
      intro k hme hk h1 heq
      refine q_iload_n hG rfl rfl ?_
      refine q_iload_n hG rfl rfl ?_
      refine q_icmp_ge hG rfl ⟨by omega, by omega⟩ ⟨by omega, by omega⟩ (fun hc13 => ?_) (fun hc13 => ?_)
      · refine q_iconst (v := 0) hG rfl rfl ?_
        refine q_iret5 hG rfl rfl (by decide) ?_
        refine p0 h1 (fun z => ?_)
        obtain ⟨e, e1, e2, e3⟩ := z
        by_cases hlt : e < k
        · have := heq e hlt; omega
        · first
          | omega
          | (by_cases hke : e = k
             · subst hke; omega
             · have := e3 k (by omega); omega)
      · have q1 := hh k (by omega)
        have q2 := hbb h1 k (by omega)
        refine q_aload_n hG rfl rfl ?_
        refine q_getR hG rfl (by assumption) (by assumption) ?_
        refine q_getR hG rfl (by assumption) (by assumption) ?_
        refine q_iload_n hG rfl rfl ?_
        refine q_ialdv (v := I 156 k) hG rfl (by assumption) ⟨by omega, by omega, by omega⟩ rfl ?_
        refine q_aload_n hG rfl rfl ?_
        refine q_getR hG rfl (by assumption) (by assumption) ?_
        refine q_iload_n hG rfl rfl ?_
        refine q_ialdv (v := I 154 k) hG rfl (by assumption) ⟨by omega, by omega, by omega⟩ rfl ?_
        refine q_icmp_eq hG rfl ⟨by omega, by omega⟩ ⟨by omega, by omega⟩ (fun hc31 => ?_) (fun hc31 => ?_)
        · refine q_iinc (c := 1) hG rfl rfl rfl rfl ?_
          refine q_goto hG rfl ?_
          exact ih _ (by omega) (k + 1) rfl (by omega) h1 (fun j hj => if e : j = k then by subst e; omega else heq j (by omega))
        · refine q_aload_n hG rfl rfl ?_
          refine q_getR hG rfl (by assumption) (by assumption) ?_
          refine q_getR hG rfl (by assumption) (by assumption) ?_
          refine q_iload_n hG rfl rfl ?_
          refine q_ialdv (v := I 156 k) hG rfl (by assumption) ⟨by omega, by omega, by omega⟩ rfl ?_
          refine q_aload_n hG rfl rfl ?_
          refine q_getR hG rfl (by assumption) (by assumption) ?_
          refine q_iload_n hG rfl rfl ?_
          refine q_ialdv (v := I 154 k) hG rfl (by assumption) ⟨by omega, by omega, by omega⟩ rfl ?_
          refine q_icmp_ge hG rfl ⟨by omega, by omega⟩ ⟨by omega, by omega⟩ (fun hc49 => ?_) (fun hc49 => ?_)
          · refine q_iconst (v := 0) hG rfl rfl ?_
            refine q_iret5 hG rfl rfl (by decide) ?_
            refine p0 h1 (fun z => ?_)
            obtain ⟨e, e1, e2, e3⟩ := z
            by_cases hlt : e < k
            · have := heq e hlt; omega
            · first
              | omega
              | (by_cases hke : e = k
                 · subst hke; omega
                 · have := e3 k (by omega); omega)
          · refine q_iconst (v := 1) hG rfl rfl ?_
            refine q_goto hG rfl ?_
            refine q_iret5 hG rfl rfl (by decide) ?_
            exact p1 (Or.inr ⟨k, by omega, by omega, heq⟩)
  show G 0 [some (.ref 153), some (.int (i3 (R 0))), none] [] (wI B I)
  refine q_aload_n hG rfl rfl ?_
  refine q_getI5 hG rfl (by assumption) ?_
  refine q_if_ne hG rfl ⟨by omega, by omega⟩ (fun hc4 => ?_) (fun hc4 => ?_)
  · refine q_iconst (v := 0) hG rfl rfl ?_
    refine q_istore_n hG rfl rfl ?_
    exact lp _ 0 rfl (by omega) (by omega) (fun j hj => by omega)
  · refine q_iconst (v := 1) hG rfl rfl ?_
    refine q_iret5 hG rfl rfl (by decide) ?_
    exact p1 (Or.inl (by omega))
theorem s_S_near {d : Nat} {B : HP} {I : IM} {Post : Out → HP → Prop} (hX : LX B) {R : RW} (hR : RepC I 1 R) {q : Int} (hW : WfR q R) (hq : q ≤ 2000000000) (hh : hbd 2000 (I 156)) (p1 : ∀ p : Nat, p < (R 1).toNat → nrP R (I 156) p → Post (.inl (some (.int (i3 (p : Int))))) (wI B I)) (p0 : (∀ k, k < (R 1).toNat → ¬ nrP R (I 156) k) → Post (.inl (some (.int (i3 (-1))))) (wI B I)) : Sp (d + 1) k_X6_tooNear [.ref 153, .ref 8] (wI B I) Post := by
  refine Sp_intro md_X6_tooNear rfl rfl (fun G hG => ?_)
  have hX0 := hX
  obtain ⟨x0, x1, x2, x3, x4, x5, x6, x7, x8, x9, x10, x11, x12, x13, x14, x15, x16, x17, x18, x19, x20, x21, x22, x23, x24, x25, x26, x27, x28, x29, x30, x31, x32, x33, x34, x35, x36, x37, x38, x39, x40, x41, x42, x43, x44⟩ := hX
  obtain ⟨d1, d2, d3, d4, hF, hBd, hCo⟩ := x10
  obtain ⟨f1, f2, f3, f4, f5⟩ := hF
  obtain ⟨g1, g2, g3, g4, g5⟩ := hBd
  obtain ⟨c1, c2, c3, c4, c5, c6, c7, c8, c9, c10, c11⟩ := hCo
  obtain ⟨t1, t2, t3, t4, t5⟩ := x12
  have hR0 := hR
  obtain ⟨r0, r1, r2, r3, r4, rd, rc, ry⟩ := hR
  have r1 : I 8 0 = R 1 := r1
  have r2 : I 8 1 = R 2 := r2
  have rd : ∀ k, k < 6 → I 3 k = R (5 + 4 * k) ∧ I 4 k = R (5 + 4 * k + 1) ∧ I 6 k = R (5 + 4 * k + 2) ∧ I 7 k = R (5 + 4 * k + 3) := rd
  have rc : ∀ k : Nat, (k : Int) < R 1 → I 9 k = R (29 + 5 * k) ∧ I 10 k = R (29 + 5 * k + 1) ∧ I 11 k = R (29 + 5 * k + 2) ∧ I 12 k = R (29 + 5 * k + 3) ∧ I 13 k = R (29 + 5 * k + 4) := rc
  have ry : ∀ k, k < 10 → 0 ≤ I 10 k ∧ I 10 k < 65536 := ry
  have hW0 := hW
  obtain ⟨w0, w1, w2, w3, w4, wd, wc⟩ := hW
  have lp : ∀ (mz : Nat) (k : Nat) (v3 : Option Value), (R 1).toNat - k = mz → k ≤ (R 1).toNat → (∀ j, j < k → ¬ nrP R (I 156) j) → (v3 = none ∨ ∃ z, v3 = some (.int z)) → G 2 [some (.ref 153), some (.ref 8), some (.int (i3 (k : Int))), v3] [] (wI B I) := by
    intro mz
    induction mz using Nat.strongRecOn with
    | ind mz ih =>
      intro k v3 hme hk hno h3
      refine q_iload_n hG rfl rfl ?_
      refine q_aload_n hG rfl rfl ?_
      refine q_getI0v (v := R 1) hG rfl (by assumption) (r1) ?_
      refine q_icmp_ge hG rfl ⟨by omega, by omega⟩ ⟨by omega, by omega⟩ (fun hc7 => ?_) (fun hc7 => ?_)
      · refine q_iconst (v := -1) hG rfl rfl ?_
        refine q_iret0 hG rfl rfl ?_
        exact p0 (fun j hj => hno j (by omega))
      · obtain ⟨v1, v2, v3e, v4, v5⟩ := rc k (by omega)
        obtain ⟨y1, y2, y3, y4, y5, y6, y7⟩ := wc k (by omega)
        have q1 := hh (R (29 + 5 * k + 2)).toNat (by omega)
        have q2 := hh (R (29 + 5 * k + 3)).toNat (by omega)
        refine q_aload_n hG rfl rfl ?_
        refine q_getR hG rfl (by assumption) (by assumption) ?_
        refine q_getR hG rfl (by assumption) (by assumption) ?_
        refine q_aload_n hG rfl rfl ?_
        refine q_getR hG rfl (by assumption) (by assumption) ?_
        refine q_iload_n hG rfl rfl ?_
        refine q_ialdv (v := R (29 + 5 * k + 2)) hG rfl (by assumption) ⟨by omega, by omega, by omega⟩ (v3e) ?_
        refine q_ialdv (v := I 156 (R (29 + 5 * k + 2)).toNat) hG rfl (by assumption) ⟨by omega, by omega, by omega⟩ rfl ?_
        refine q_aload_n hG rfl rfl ?_
        refine q_getR hG rfl (by assumption) (by assumption) ?_
        refine q_getR hG rfl (by assumption) (by assumption) ?_
        refine q_aload_n hG rfl rfl ?_
        refine q_getR hG rfl (by assumption) (by assumption) ?_
        refine q_iload_n hG rfl rfl ?_
        refine q_ialdv (v := R (29 + 5 * k + 3)) hG rfl (by assumption) ⟨by omega, by omega, by omega⟩ (v4) ?_
        refine q_ialdv (v := I 156 (R (29 + 5 * k + 3)).toNat) hG rfl (by assumption) ⟨by omega, by omega, by omega⟩ rfl ?_
        refine q_isub hG rfl ?_
        refine q_abs hG rfl ⟨by omega, by omega⟩ rfl ?_
        refine q_istore_n hG rfl rfl ?_
        refine q_aload_n hG rfl rfl ?_
        refine q_getR hG rfl (by assumption) (by assumption) ?_
        refine q_iload_n hG rfl rfl ?_
        refine q_caldv (v := R (29 + 5 * k + 1)) hG rfl (by assumption) ⟨by omega, by omega, by omega⟩ (v2) ?_
        refine q_bipush (v := 35) hG rfl rfl ?_
        refine q_icmp_ne hG rfl ⟨by omega, by omega⟩ ⟨by omega, by omega⟩ (fun hc51 => ?_) (fun hc51 => ?_)
        · refine q_iinc (c := 1) hG rfl rfl rfl rfl ?_
          refine q_goto hG rfl ?_
          have nn : ¬ nrP R (I 156) k := (fun z => by
            obtain ⟨z1, z2, z3⟩ := z
            have z1 : R (29 + 5 * k + 1) = 35 := z1
            have z2 : I 156 (R (29 + 5 * k + 2)).toNat - I 156 (R (29 + 5 * k + 3)).toNat < R (29 + 5 * k + 4) := z2
            have z3 : I 156 (R (29 + 5 * k + 3)).toNat - I 156 (R (29 + 5 * k + 2)).toNat < R (29 + 5 * k + 4) := z3
            omega)
          exact ih _ (by omega) (k + 1) _ rfl (by omega) (fun j hj => if e : j = k then by rw [e]; exact nn else hno j (by omega)) (Or.inr ⟨_, rfl⟩)
        · refine q_iload_n hG rfl rfl ?_
          refine q_aload_n hG rfl rfl ?_
          refine q_getR hG rfl (by assumption) (by assumption) ?_
          refine q_iload_n hG rfl rfl ?_
          refine q_ialdv (v := R (29 + 5 * k + 4)) hG rfl (by assumption) ⟨by omega, by omega, by omega⟩ (v5) ?_
          refine q_icmp_ge hG rfl ⟨by split <;> omega, by split <;> omega⟩ ⟨by omega, by omega⟩ (fun hc61 => ?_) (fun hc61 => ?_)
          · refine q_iinc (c := 1) hG rfl rfl rfl rfl ?_
            refine q_goto hG rfl ?_
            have nn : ¬ nrP R (I 156) k := (fun z => by
              obtain ⟨z1, z2, z3⟩ := z
              have z1 : R (29 + 5 * k + 1) = 35 := z1
              have z2 : I 156 (R (29 + 5 * k + 2)).toNat - I 156 (R (29 + 5 * k + 3)).toNat < R (29 + 5 * k + 4) := z2
              have z3 : I 156 (R (29 + 5 * k + 3)).toNat - I 156 (R (29 + 5 * k + 2)).toNat < R (29 + 5 * k + 4) := z3
              omega)
            exact ih _ (by omega) (k + 1) _ rfl (by omega) (fun j hj => if e : j = k then by rw [e]; exact nn else hno j (by omega)) (Or.inr ⟨_, rfl⟩)
          · refine q_iload_n hG rfl rfl ?_
            refine q_iret0 hG rfl rfl ?_
            refine p1 k (by omega) ⟨by show R (29 + 5 * k + 1) = 35; omega, ?_, ?_⟩
            · show I 156 (R (29 + 5 * k + 2)).toNat - I 156 (R (29 + 5 * k + 3)).toNat < R (29 + 5 * k + 4)
              omega
            · show I 156 (R (29 + 5 * k + 3)).toNat - I 156 (R (29 + 5 * k + 2)).toNat < R (29 + 5 * k + 4)
              omega
  show G 0 [some (.ref 153), some (.ref 8), none, none] [] (wI B I)
  refine q_iconst (v := 0) hG rfl rfl ?_
  refine q_istore_n hG rfl rfl ?_
  exact lp _ 0 none rfl (by omega) (fun j hj => by omega) (Or.inl rfl)
theorem upf_upf (f : Nat → Int) (x : Nat) (u v : Int) : upf (upf f x u) x v = upf f x v := by
  funext k
  unfold upf
  by_cases h : k = x
  · rw [if_pos h, if_pos h]
  · rw [if_neg h, if_neg h, if_neg h]
theorem upf_id {f : Nat → Int} {x : Nat} {v : Int} (h : f x = v) : upf f x v = f := by
  funext k
  unfold upf
  split
  · rename_i e; rw [e, h]
  · rfl
/-- the state of the search -/
def sst (R : RW) (s : PT) (b : Nat) (I : IM) (sd : Nat → Int) (z : Int) : Prop := RepC I 1 R ∧ (∀ k, k < 6 → I (b + 1) k = s.1 k ∧ I (b + 2) k = s.2.1 k) ∧ I 157 = sd ∧ I 153 1 = z ∧ (z = 0 ∨ z = 1) ∧ (z = 1 → inP s (I 154))
def sfr (I J : IM) : Prop := ∀ a, a ≠ 153 → a ≠ 154 → a ≠ 156 → a ≠ 157 → J a = I a
theorem sfr.trans {I J K : IM} (h : sfr I J) (h2 : sfr J K) : sfr I K := fun a p q r t => (h2 a p q r t).trans (h a p q r t)
theorem inP_bd {s : PT} (ho : okB s) {p : Nat → Int} (h : inP s p) : hbd 2000 p := fun k hk => by
  have a := ho k hk
  have b := h k hk
  omega
theorem sst.mv {R : RW} {s : PT} {b : Nat} (hbb : b = 5 ∨ b = 146) {I J : IM} {sd sd' : Nat → Int} {z : Int} (h : sst R s b I sd z) (hr : ∀ a, a ≠ 156 → a ≠ 157 → J a = I a) (e : J 157 = sd') : sst R s b J sd' z := by
  obtain ⟨a1, a2, a3, a4, a5, a6⟩ := h
  refine ⟨a1.row (fun a u v => hr a (by omega) (by omega)), fun k hk => ?_, e, by rw [hr 153 (by decide) (by decide)]; exact a4, a5, by rw [hr 154 (by decide) (by decide)]; exact a6⟩
  rw [hr (b + 1) (by omega) (by omega), hr (b + 2) (by omega) (by omega)]
  exact a2 k hk
theorem s_S_choose {d : Nat} {B : HP} (hX : LX B) {R : RW} {q : Int} (hW : WfR q R) (hq : q ≤ 2000000000) {b : Nat} (hbb : b = 5 ∨ b = 146) {s : PT} (hok : okB s) : ∀ (f : Nat) {I : IM} {Post : Out → HP → Prop} {e : Nat} {sd : Nat → Int} {z : Int} (hfe : f + e = 10) (hcz : cz sd = (e : Int)) (hsd : ∀ p, p < 10 → 0 ≤ sd p ∧ sd p ≤ 2) (hst : sst R s b I sd z) (hp : ∀ (J : IM) (z2 : Int), srch (R 0).toNat (peD R s sd) z (I 154) z2 (J 154) → sst R s b J sd z2 → sfr I J → Post (.inl none) (wI B J)), Sp (d + f + 5) k_X6_chooseSides [.ref 153, .ref 8, .ref b, .int (i3 (R 0)), .int (i3 (e : Int))] (wI B I) Post := by
  have hX0 := hX
  obtain ⟨x0, x1, x2, x3, x4, x5, x6, x7, x8, x9, x10, x11, x12, x13, x14, x15, x16, x17, x18, x19, x20, x21, x22, x23, x24, x25, x26, x27, x28, x29, x30, x31, x32, x33, x34, x35, x36, x37, x38, x39, x40, x41, x42, x43, x44⟩ := hX
  obtain ⟨w0, w1, -⟩ := id hW
  intro f
  induction f using Nat.strongRecOn with
  | ind f ih =>
    intro I Post e sd z hfe hcz hsd hst hp
    have hst0 := hst
    obtain ⟨hR0, hlo, h157, h153, hz, hbest⟩ := hst
    refine Sp_intro md_X6_chooseSides rfl rfl (fun G hG => ?_)
    show G 0 [some (.ref 153), some (.ref 8), some (.ref b), some (.int (i3 (R 0))), some (.int (i3 (e : Int))), none, none] [] (wI B I)
    refine q_aload_n hG rfl rfl ?_
    refine q_getR hG rfl (by assumption) (by assumption) ?_
    refine q_astore hG rfl rfl ?_
    refine q_iload hG rfl rfl ?_
    refine q_bipush (v := 10) hG rfl rfl ?_
    refine q_icmp_gt hG rfl ⟨by omega, by omega⟩ ⟨by omega, by omega⟩ (fun hc10 => absurd hc10 (by omega)) (fun hc10 => ?_)
    refine q_aload hG rfl rfl ?_
    refine q_aload_n hG rfl rfl ?_
    refine q_aload_n hG rfl rfl ?_
    refine q_iload_n hG rfl rfl ?_
    refine q_callV6 hG rfl rfl rfl (by assumption) (s_X_climb hX0 hR0 hW hq (L := 155) (Or.inr rfl) hbb hok hlo (fun p hp => by show 0 ≤ I 157 p ∧ I 157 p ≤ 2; rw [h157]; exact hsd p hp) (fun J e0 e1 j1 => ?_) (fun J e0 j1 => ?_))
    · have j1 : ∀ a, a ≠ 156 → J a = I a := j1
      have e0 : lsS R s (I 157) (J 156) := e0
      have e1 : hbd 2000 (J 156) := e1
      rw [h157] at e0
      have hRJ : RepC J 1 R := hR0.row (fun a u v => j1 a (by omega))
      have z3 : J 153 1 = z := by rw [j1 153 (by decide)]; exact h153
      refine q_if_eq hG rfl ⟨by omega, by omega⟩ (fun q => absurd q (by decide)) (fun _ => ?_)
      refine q_aload_n hG rfl rfl ?_
      refine q_iload_n hG rfl rfl ?_
      refine q_callV6 hG rfl rfl rfl (by assumption) (s_S_better hX0 hRJ hW hq (by rw [z3]; exact hz) e1 (fun hz1 => by rw [j1 154 (by decide)]; exact inP_bd hok (hbest (by rw [← z3]; exact hz1))) (fun hb1 => ?_) (fun hb1 hb2 => ?_))
      · refine q_if_ne hG rfl ⟨by omega, by omega⟩ (fun _ => ?_) (fun q => absurd (by decide) q)
        refine q_aload_n hG rfl rfl ?_
        refine q_aload_n hG rfl rfl ?_
        refine q_callV6 hG rfl rfl rfl (by assumption) (s_S_near hX0 hRJ hW hq e1 (fun p hpn hn => ?_) (fun hn => ?_))
        · refine q_istore hG rfl rfl ?_
          refine q_iload hG rfl rfl ?_
          refine q_iconst (v := -1) hG rfl rfl ?_
          refine q_icmp_ne hG rfl ⟨by omega, by omega⟩ ⟨by omega, by omega⟩ (fun hc43 => ?_) (fun hc43 => absurd (by omega) hc43)
          have hp10 : p < 10 := by omega
          have h0p : sd p = 0 := by
            have z0 := nr_open hpn e0.1 hn (hsd p hp10)
            exact z0
          have c1 := cz_up (v := 1) hp10 h0p (by decide)
          have c2 := cz_up (v := 2) hp10 h0p (by decide)
          have c3 := (cz_bd (upf sd p 1)).2
          have hsd1 : ∀ v : Int, 0 ≤ v ∧ v ≤ 2 → ∀ k, k < 10 → 0 ≤ upf sd p v k ∧ upf sd p v k ≤ 2 := fun v hv k hk => by
            unfold upf
            split
            · exact hv
            · exact hsd k hk
          have hst1 : sst R s b (st J 157 p 1) (upf sd p 1) z := hst0.mv hbb (fun a h6 h7 => by rw [st_row _ _ h7, j1 a h6]) (by rw [st_fn, j1 157 (by decide), h157])
          obtain ⟨f2, rfl⟩ : ∃ f2, f = f2 + 1 := ⟨f - 1, by omega⟩
          refine q_aload hG rfl rfl ?_
          refine q_getR hG rfl (by assumption) (by assumption) ?_
          refine q_iload hG rfl rfl ?_
          refine q_iconst (v := 1) hG rfl rfl ?_
          refine q_iast hG rfl (by assumption) ⟨by omega, by omega, by omega⟩ ?_
          refine q_aload_n hG rfl rfl ?_
          refine q_aload_n hG rfl rfl ?_
          refine q_aload_n hG rfl rfl ?_
          refine q_iload_n hG rfl rfl ?_
          refine q_iload hG rfl rfl ?_
          refine q_iconst (v := 1) hG rfl rfl ?_
          refine q_iadd hG rfl ?_
          refine q_callS0 hG rfl rfl rfl (ih f2 (by omega) (e := e + 1) (sd := upf sd p 1) (by omega) (by omega) (hsd1 1 (by omega)) hst1 (fun J1 z1 g1 t1 u1 => ?_))
          have hst2 : sst R s b (st J1 157 p 2) (upf sd p 2) z1 := t1.mv hbb (fun a h6 h7 => by rw [st_row _ _ h7]) (by rw [st_fn, t1.2.2.1, upf_upf])
          refine q_aload hG rfl rfl ?_
          refine q_getR hG rfl (by assumption) (by assumption) ?_
          refine q_iload hG rfl rfl ?_
          refine q_iconst (v := 2) hG rfl rfl ?_
          refine q_iast hG rfl (by assumption) ⟨by omega, by omega, by omega⟩ ?_
          refine q_aload_n hG rfl rfl ?_
          refine q_aload_n hG rfl rfl ?_
          refine q_aload_n hG rfl rfl ?_
          refine q_iload_n hG rfl rfl ?_
          refine q_iload hG rfl rfl ?_
          refine q_iconst (v := 1) hG rfl rfl ?_
          refine q_iadd hG rfl ?_
          refine q_callS0 hG rfl rfl rfl (ih f2 (by omega) (e := e + 1) (sd := upf sd p 2) (by omega) (by omega) (hsd1 2 (by omega)) hst2 (fun J2 z2 g2 t2 u2 => ?_))
          refine q_aload hG rfl rfl ?_
          refine q_getR hG rfl (by assumption) (by assumption) ?_
          refine q_iload hG rfl rfl ?_
          refine q_iconst (v := 0) hG rfl rfl ?_
          refine q_iast hG rfl (by assumption) ⟨by omega, by omega, by omega⟩ ?_
          refine q_vret hG rfl ?_
          rw [st_row _ _ (show (154 : Nat) ≠ 157 by decide), j1 154 (by decide)] at g1
          rw [st_row _ _ (show (154 : Nat) ≠ 157 by decide)] at g2
          refine hp _ z2 ?_ (t2.mv hbb (fun a h6 h7 => by rw [st_row _ _ h7]) (by rw [st_fn, t2.2.2.1]; show upf (upf sd p 2) p 0 = sd; rw [upf_upf, upf_id h0p])) (fun a h3 h4 h6 h7 => by rw [st_row _ _ h7, u2 a h3 h4 h6 h7, st_row _ _ h7, u1 a h3 h4 h6 h7, st_row _ _ h7, j1 a h6])
          rw [st_row _ _ (show (154 : Nat) ≠ 157 by decide)]
          exact srch.comp (by omega) (fun p p' h => peD_cg hW h) (fun p' => pe_split hpn hn.1 h0p p') g1 g2
        · refine q_istore hG rfl rfl ?_
          refine q_iload hG rfl rfl ?_
          refine q_iconst (v := -1) hG rfl rfl ?_
          refine q_icmp_ne hG rfl ⟨by omega, by omega⟩ ⟨by omega, by omega⟩ (fun q => absurd q (by decide)) (fun _ => ?_)
          refine q_aload hG rfl rfl ?_
          refine q_getR hG rfl (by assumption) (by assumption) ?_
          refine q_iconst (v := 0) hG rfl rfl ?_
          refine q_aload_n hG rfl rfl ?_
          refine q_getR hG rfl (by assumption) (by assumption) ?_
          refine q_iconst (v := 0) hG rfl rfl ?_
          refine q_bipush (v := 6) hG rfl rfl ?_
          refine q_copyI hG rfl (by assumption) (by assumption) ⟨by omega, by omega, by omega, by omega, by omega, by omega, by omega, by omega⟩ ?_
          refine q_aload_n hG rfl rfl ?_
          refine q_iconst (v := 1) hG rfl rfl ?_
          refine q_putI5 hG rfl (by assumption) (by omega) ?_
          refine q_vret hG rfl ?_
          have kb : ∀ k, k < 6 → (st (cpM J 156 0 154 0 6) 153 1 1) 154 k = J 156 k := fun k hk => by rw [st_row _ _ (by decide), cp_in _ hk]
          have pd : peD R s sd (J 156) := pe_done hW e0.1 hn
          refine hp (st (cpM J 156 0 154 0 6) 153 1 1) 1 ⟨Or.inr rfl, fun z => by omega, fun _ => ⟨Or.inr ⟨peD_cg hW (fun k hk => (kb k hk).symm) pd, fun hz1 => ?_⟩, fun p hp' => ?_⟩⟩ ⟨?_, fun k hk => ?_, ?_, ?_, Or.inr rfl, fun _ k hk => ?_⟩ (fun a h3 h4 h6 _ => by rw [st_row _ _ h3, cp_row _ h4, j1 a h6])
          · rcases hb1 with h | h
            · omega
            · exact ltL_cg (fun k hk => (kb k (by omega)).symm) (fun k _ => by rw [j1 154 (by decide)]) h
          · exact ltL_no (fun k hk => by rw [kb k (by omega)]; exact e0.2 p (peD_pc hp') k (by omega))
          · exact hR0.row (fun a u v => by rw [st_row _ _ (by omega), cp_row _ (by omega), j1 a (by omega)])
          · rw [st_row _ _ (by omega), cp_row _ (by omega), j1 _ (by omega), st_row _ _ (by omega), cp_row _ (by omega), j1 _ (by omega)]
            exact hlo k hk
          · rw [st_row _ _ (by decide), cp_row _ (by decide), j1 157 (by decide), h157]
          · rw [st_same]
          · rw [kb k hk]
            exact e0.1.2 k hk
      · refine q_if_ne hG rfl ⟨by omega, by omega⟩ (fun q => absurd q (by decide)) (fun _ => ?_)
        refine q_vret hG rfl ?_
        refine hp J z ?_ (hst0.mv hbb (fun a h6 _ => j1 a h6) (by rw [j1 157 (by decide), h157])) (fun a _ _ h6 _ => j1 a h6)
        rw [j1 154 (by decide)] at hb2 ⊢
        exact srch_worse (by omega) (fun p hp' hl => hb2 (ltL_le (fun k hk => e0.2 p (peD_pc hp') k (by omega)) hl))
    · have j1 : ∀ a, a ≠ 156 → J a = I a := j1
      have e0 : ∀ p, ¬ pcS R s (I 157) p := e0
      rw [h157] at e0
      refine q_if_eq hG rfl ⟨by omega, by omega⟩ (fun _ => ?_) (fun q => absurd (by decide) q)
      refine q_vret hG rfl ?_
      refine hp J z ?_ (hst0.mv hbb (fun a h6 _ => j1 a h6) (by rw [j1 157 (by decide), h157])) (fun a _ _ h6 _ => j1 a h6)
      rw [j1 154 (by decide)]
      exact srch_none hz (fun p hp => e0 p (peD_pc hp))
theorem cz_0 {sd : Nat → Int} (h : ∀ k, k < 10 → sd k = 0) : cz sd = 0 := by
  have e : cz sd = sm (fun _ => 0) 10 := sm_congr 10 (fun k hk => if_pos (h k hk))
  rw [e]
  rfl
theorem pe_zero {R : RW} {s : PT} {sd p : Nat → Int} (h : ∀ k, k < (R 1).toNat → sd k = 0) (hp : peS R s p) : peD R s sd p := ⟨hp, fun k hk => by
  have a := hp.2 k hk
  have e := h k hk
  exact ⟨a.1, a.2.1, fun _ _ => ⟨fun z => by omega, fun z => by omega⟩⟩⟩
def ffr (I J : IM) : Prop := ∀ a, a ≠ 153 → a ≠ 154 → a ≠ 156 → J a = I a
theorem s_S_find {d : Nat} {B : HP} {I : IM} {Post : Out → HP → Prop} (hX : LX B) {R : RW} (hR : RepC I 1 R) {q : Int} (hW : WfR q R) (hq : q ≤ 2000000000) {b : Nat} (hbb : b = 5 ∨ b = 146) {s : PT} (hok : okB s) (hlo : ∀ k, k < 6 → I (b + 1) k = s.1 k ∧ I (b + 2) k = s.2.1 k) (hz7 : ∀ k, k < 10 → I 157 k = 0) (p1 : ∀ J : IM, peS R s (J 154) → (∀ p, peS R s p → ¬ ltL (R 0).toNat p (J 154)) → ffr I J → Post (.inl (some (.int (i3 1)))) (wI B J)) (p0 : ∀ J : IM, (∀ p, ¬ peS R s p) → ffr I J → Post (.inl (some (.int (i3 0)))) (wI B J)) : Sp (d + 16) k_X6_find [.ref 153, .ref 8, .ref b, .int (i3 (R 0))] (wI B I) Post := by
  refine Sp_intro md_X6_find rfl rfl (fun G hG => ?_)
  have hX0 := hX
  obtain ⟨x0, x1, x2, x3, x4, x5, x6, x7, x8, x9, x10, x11, x12, x13, x14, x15, x16, x17, x18, x19, x20, x21, x22, x23, x24, x25, x26, x27, x28, x29, x30, x31, x32, x33, x34, x35, x36, x37, x38, x39, x40, x41, x42, x43, x44⟩ := hX
  have hR0 := hR
  have hW0 := hW
  have hw1 := hW.2.1
  show G 0 [some (.ref 153), some (.ref 8), some (.ref b), some (.int (i3 (R 0)))] [] (wI B I)
  refine q_aload_n hG rfl rfl ?_
  refine q_iconst (v := 0) hG rfl rfl ?_
  refine q_putI5 hG rfl (by assumption) (by omega) ?_
  refine q_aload_n hG rfl rfl ?_
  refine q_aload_n hG rfl rfl ?_
  refine q_aload_n hG rfl rfl ?_
  refine q_iload_n hG rfl rfl ?_
  refine q_iconst (v := 0) hG rfl rfl ?_
  refine q_callS0 hG rfl rfl rfl (s_S_choose hX0 hW0 hq hbb hok 10 (I := st I 153 1 0) (e := 0) (sd := I 157) (z := 0) rfl (cz_0 hz7) (fun p hp => by rw [hz7 p hp]; omega) ⟨hR0.row (fun a u v => st_row _ _ (by omega)), fun k hk => by rw [st_row _ _ (by omega), st_row _ _ (by omega)]; exact hlo k hk, st_row _ _ (by decide), st_same _ _ _ _, Or.inl rfl, fun z => by omega⟩ (fun J z2 g t u => ?_))
  obtain ⟨t1, t2, t3, t4, t5, t6⟩ := t
  obtain ⟨g1, g2, g3⟩ := g
  have hfr : ffr I J := fun a h3 h4 h6 => by
    by_cases h7 : a = 157
    · rw [h7]; exact t3
    · rw [u a h3 h4 h6 h7, st_row _ _ h3]
  refine q_aload_n hG rfl rfl ?_
  refine q_getI5v (v := z2) hG rfl (by assumption) (t4) ?_
  refine q_iret5 hG rfl rfl (by omega) ?_
  rcases t5 with ez | ez
  · rw [ez]
    exact p0 J (fun p hp => (g2 ez).2 p (pe_zero (fun k hk => hz7 k (by omega)) hp)) hfr
  · rw [ez]
    obtain ⟨h1, h2⟩ := g3 ez
    rcases h1 with ⟨h1, -⟩ | ⟨h1, -⟩
    · exact absurd h1 (by decide)
    · exact p1 J h1.1 (fun p hp => h2 p (pe_zero (fun k hk => hz7 k (by omega)) hp)) hfr
