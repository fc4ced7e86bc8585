/-! the reference: its row, doors and constraints -/
def oM (B : HP) (m : Nat) : Prop := hK B m = (19, 0) ∧ hR B m 1 = some (m + 1) ∧ hR B m 12 = some (m + 2) ∧ hR B m 13 = some (m + 3) ∧ hR B m 15 = some (m + 4) ∧ hR B m 20 = some (m + 5) ∧ hK B (m + 1) = (1, 948) ∧ hK B (m + 2) = (2, 54) ∧ hK B (m + 3) = (3, 40) ∧ hK B (m + 4) = (3, 60) ∧ hK B (m + 5) = (1, 244)
def dR (I : IM) (m k w : Nat) : Int := I (m + 1) (5 + 4 * k + w)
def cR (I : IM) (m k w : Nat) : Int := I (m + 1) (29 + 5 * k + w)
def rfS (I : IM) (m : Nat) : PT := (fun k => dR I m k 2, fun k => dR I m k 3, I m 10)
def rfr (I J : IM) (m : Nat) : Prop := (∀ a, a ≠ m → a ≠ m + 1 → J a = I a) ∧ (∀ k, k ≠ 10 → J m k = I m k) ∧ ∀ j, (j < 5 ∨ 29 ≤ j ∨ (j - 5) % 4 < 2) → J (m + 1) j = I (m + 1) j
theorem rfr.refl (I : IM) (m : Nat) : rfr I I m := ⟨fun _ _ _ => rfl, fun _ _ => rfl, fun _ _ => rfl⟩
theorem rfr.trans {I J K : IM} {m : Nat} (h : rfr I J m) (h2 : rfr J K m) : rfr I K m := ⟨fun a p q => (h2.1 a p q).trans (h.1 a p q), fun k p => (h2.2.1 k p).trans (h.2.1 k p), fun j p => (h2.2.2 j p).trans (h.2.2 j p)⟩
theorem rfr.c {I J : IM} {m : Nat} (h : rfr I J m) (k w : Nat) : cR J m k w = cR I m k w := h.2.2 _ (by omega)
theorem rfr.f {I J : IM} {m : Nat} (h : rfr I J m) (k w : Nat) (hw : w < 2) : dR J m k w = dR I m k w := h.2.2 _ (by omega)
theorem rfr_lo {I : IM} {m x : Nat} {v : Int} (hx : x < 6) : rfS (st (st I (m + 1) (5 + 4 * x + 2) v) m 10 (I m 10 + 1)) m = (upf (rfS I m).1 x v, (rfS I m).2.1, (rfS I m).2.2 + 1) ∧ rfr I (st (st I (m + 1) (5 + 4 * x + 2) v) m 10 (I m 10 + 1)) m := by
  refine ⟨?_, fun a p q => ?_, fun k p => ?_, fun j p => ?_⟩
  · unfold rfS dR
    rw [st_row _ _ (show m + 1 ≠ m by omega), st_same, st_fn]
    refine Prod.ext (funext fun k => ?_) (Prod.ext (funext fun k => ?_) rfl)
    · show upf (I (m + 1)) (5 + 4 * x + 2) v (5 + 4 * k + 2) = upf (fun k => I (m + 1) (5 + 4 * k + 2)) x v k
      unfold upf
      exact ifc (by omega) _ _
    · exact upf_ne _ _ (by omega)
  · rw [st_row _ _ p, st_row _ _ q]
  · rw [st_ne _ _ (by omega), st_row _ _ (by omega)]
  · rw [st_row _ _ (by omega)]
    exact st_ne _ _ (by omega)
theorem rfr_hi {I : IM} {m x : Nat} {v : Int} (hx : x < 6) : rfS (st (st I (m + 1) (5 + 4 * x + 3) v) m 10 (I m 10 + 1)) m = ((rfS I m).1, upf (rfS I m).2.1 x v, (rfS I m).2.2 + 1) ∧ rfr I (st (st I (m + 1) (5 + 4 * x + 3) v) m 10 (I m 10 + 1)) m := by
  refine ⟨?_, fun a p q => ?_, fun k p => ?_, fun j p => ?_⟩
  · unfold rfS dR
    rw [st_row _ _ (show m + 1 ≠ m by omega), st_same, st_fn]
    refine Prod.ext (funext fun k => ?_) (Prod.ext (funext fun k => ?_) rfl)
    · exact upf_ne _ _ (by omega)
    · show upf (I (m + 1)) (5 + 4 * x + 3) v (5 + 4 * k + 3) = upf (fun k => I (m + 1) (5 + 4 * k + 3)) x v k
      unfold upf
      exact ifc (by omega) _ _
  · rw [st_row _ _ p, st_row _ _ q]
  · rw [st_ne _ _ (by omega), st_row _ _ (by omega)]
  · rw [st_row _ _ (by omega)]
    exact st_ne _ _ (by omega)

theorem s_R_d {d : Nat} {B : HP} {I : IM} {Post : Out → HP → Prop} {m : Nat} (hm : oM B m) {x : Int} {w : Nat} (hx : 0 ≤ x ∧ x < 200) (hw : w < 4) (hp : Post (.inl (some (.int (i3 (dR I m x.toNat w))))) (wI B I)) : Sp (d + 1) k_X9_d [.ref m, .int (i3 (x)), .int (i3 ((w : Int)))] (wI B I) Post := by
  refine Sp_intro md_X9_d rfl rfl (fun G hG => ?_)
  have hm0 := hm
  obtain ⟨n1, n2, n3, n4, n5, n6, n7, n8, n9, n10, n11⟩ := hm
  show G 0 [some (.ref m), some (.int (i3 (x))), some (.int (i3 ((w : Int))))] [] (wI B I)
  refine q_aload_n hG rfl rfl ?_
  refine q_getR hG rfl (by assumption) (by assumption) ?_
  refine q_iconst (v := 5) hG rfl rfl ?_
  refine q_iconst (v := 4) hG rfl rfl ?_
  refine q_iload_n hG rfl rfl ?_
  refine q_imul hG rfl ?_
  refine q_iadd hG rfl ?_
  refine q_iload_n hG rfl rfl ?_
  refine q_iadd hG rfl ?_
  refine q_ialdv (v := dR I m x.toNat w) hG rfl (by assumption) ⟨by omega, by omega, by omega⟩ (by unfold dR; congr 1 <;> omega) ?_
  refine q_iret0 hG rfl rfl ?_
  exact hp
theorem s_R_dN {d : Nat} {B : HP} {I : IM} {Post : Out → HP → Prop} {m : Nat} (hm : oM B m) {x : Nat} {w : Nat} (hx : x < 200) (hw : w < 4) (hp : Post (.inl (some (.int (i3 (dR I m x w))))) (wI B I)) : Sp (d + 1) k_X9_d [.ref m, .int (i3 ((x : Int))), .int (i3 ((w : Int)))] (wI B I) Post := by
  refine Sp_intro md_X9_d rfl rfl (fun G hG => ?_)
  have hm0 := hm
  obtain ⟨n1, n2, n3, n4, n5, n6, n7, n8, n9, n10, n11⟩ := hm
  show G 0 [some (.ref m), some (.int (i3 ((x : Int)))), some (.int (i3 ((w : Int))))] [] (wI B I)
  refine q_aload_n hG rfl rfl ?_
  refine q_getR hG rfl (by assumption) (by assumption) ?_
  refine q_iconst (v := 5) hG rfl rfl ?_
  refine q_iconst (v := 4) hG rfl rfl ?_
  refine q_iload_n hG rfl rfl ?_
  refine q_imul hG rfl ?_
  refine q_iadd hG rfl ?_
  refine q_iload_n hG rfl rfl ?_
  refine q_iadd hG rfl ?_
  refine q_ialdv (v := dR I m x w) hG rfl (by assumption) ⟨by omega, by omega, by omega⟩ (by unfold dR; congr 1 <;> omega) ?_
  refine q_iret0 hG rfl rfl ?_
  exact hp
theorem s_R_c {d : Nat} {B : HP} {I : IM} {Post : Out → HP → Prop} {m : Nat} (hm : oM B m) {x : Int} {w : Nat} (hx : 0 ≤ x ∧ x < 180) (hw : w < 5) (hp : Post (.inl (some (.int (i3 (cR I m x.toNat w))))) (wI B I)) : Sp (d + 1) k_X9_c [.ref m, .int (i3 (x)), .int (i3 ((w : Int)))] (wI B I) Post := by
  refine Sp_intro md_X9_c rfl rfl (fun G hG => ?_)
  have hm0 := hm
  obtain ⟨n1, n2, n3, n4, n5, n6, n7, n8, n9, n10, n11⟩ := hm
  show G 0 [some (.ref m), some (.int (i3 (x))), some (.int (i3 ((w : Int))))] [] (wI B I)
  refine q_aload_n hG rfl rfl ?_
  refine q_getR hG rfl (by assumption) (by assumption) ?_
  refine q_bipush (v := 29) hG rfl rfl ?_
  refine q_iconst (v := 5) hG rfl rfl ?_
  refine q_iload_n hG rfl rfl ?_
  refine q_imul hG rfl ?_
  refine q_iadd hG rfl ?_
  refine q_iload_n hG rfl rfl ?_
  refine q_iadd hG rfl ?_
  refine q_ialdv (v := cR I m x.toNat w) hG rfl (by assumption) ⟨by omega, by omega, by omega⟩ (by unfold cR; congr 1 <;> omega) ?_
  refine q_iret0 hG rfl rfl ?_
  exact hp
theorem s_R_cN {d : Nat} {B : HP} {I : IM} {Post : Out → HP → Prop} {m : Nat} (hm : oM B m) {x : Nat} {w : Nat} (hx : x < 180) (hw : w < 5) (hp : Post (.inl (some (.int (i3 (cR I m x w))))) (wI B I)) : Sp (d + 1) k_X9_c [.ref m, .int (i3 ((x : Int))), .int (i3 ((w : Int)))] (wI B I) Post := by
  refine Sp_intro md_X9_c rfl rfl (fun G hG => ?_)
  have hm0 := hm
  obtain ⟨n1, n2, n3, n4, n5, n6, n7, n8, n9, n10, n11⟩ := hm
  show G 0 [some (.ref m), some (.int (i3 ((x : Int)))), some (.int (i3 ((w : Int))))] [] (wI B I)
  refine q_aload_n hG rfl rfl ?_
  refine q_getR hG rfl (by assumption) (by assumption) ?_
  refine q_bipush (v := 29) hG rfl rfl ?_
  refine q_iconst (v := 5) hG rfl rfl ?_
  refine q_iload_n hG rfl rfl ?_
  refine q_imul hG rfl ?_
  refine q_iadd hG rfl ?_
  refine q_iload_n hG rfl rfl ?_
  refine q_iadd hG rfl ?_
  refine q_ialdv (v := cR I m x w) hG rfl (by assumption) ⟨by omega, by omega, by omega⟩ (by unfold cR; congr 1 <;> omega) ?_
  refine q_iret0 hG rfl rfl ?_
  exact hp
theorem s_R_set {d : Nat} {B : HP} {I : IM} {Post : Out → HP → Prop} {m : Nat} (hm : oM B m) {x v : Int} {w : Nat} (hx : 0 ≤ x ∧ x < 200) (hw : w < 4) (hp : Post (.inl none) (wI B (st I (m + 1) (5 + 4 * x.toNat + w) v))) : Sp (d + 1) k_X9_set [.ref m, .int (i3 (x)), .int (i3 ((w : Int))), .int (i3 (v))] (wI B I) Post := by
  refine Sp_intro md_X9_set rfl rfl (fun G hG => ?_)
  have hm0 := hm
  obtain ⟨n1, n2, n3, n4, n5, n6, n7, n8, n9, n10, n11⟩ := hm
  show G 0 [some (.ref m), some (.int (i3 (x))), some (.int (i3 ((w : Int)))), some (.int (i3 (v)))] [] (wI B I)
  refine q_aload_n hG rfl rfl ?_
  refine q_getR hG rfl (by assumption) (by assumption) ?_
  refine q_iconst (v := 5) hG rfl rfl ?_
  refine q_iconst (v := 4) hG rfl rfl ?_
  refine q_iload_n hG rfl rfl ?_
  refine q_imul hG rfl ?_
  refine q_iadd hG rfl ?_
  refine q_iload_n hG rfl rfl ?_
  refine q_iadd hG rfl ?_
  refine q_iload_n hG rfl rfl ?_
  refine q_iast hG rfl (by assumption) ⟨by omega, by omega, by omega⟩ ?_
  refine q_vret hG rfl ?_
  rw [show (5 + 4 * x + (w : Int)).toNat = 5 + 4 * x.toNat + w by omega]
  exact hp
theorem s_R_in {d : Nat} {B : HP} {I : IM} {Post : Out → HP → Prop} {v a b : Int} (hv : r32 v) (ha : r32 a) (hb : r32 b) (p1 : a ≤ v ∧ v ≤ b → Post (.inl (some (.int (i3 1)))) (wI B I)) (p0 : ¬ (a ≤ v ∧ v ≤ b) → Post (.inl (some (.int (i3 0)))) (wI B I)) : Sp (d + 1) k_X9_in [.int (i3 (v)), .int (i3 (a)), .int (i3 (b))] (wI B I) Post := by
  refine Sp_intro md_X9_in rfl rfl (fun G hG => ?_)
  show G 0 [some (.int (i3 (v))), some (.int (i3 (a))), some (.int (i3 (b)))] [] (wI B I)
  refine q_iload_n hG rfl rfl ?_
  refine q_iload_n hG rfl rfl ?_
  refine q_icmp_lt hG rfl (hv) (ha) (fun hc2 => ?_) (fun hc2 => ?_)
  · refine q_iconst (v := 0) hG rfl rfl ?_
    refine q_iret5 hG rfl rfl (by decide) ?_
    exact p0 (by omega)
  · refine q_iload_n hG rfl rfl ?_
    refine q_iload_n hG rfl rfl ?_
    refine q_icmp_gt hG rfl (hv) (hb) (fun hc7 => ?_) (fun hc7 => ?_)
    · refine q_iconst (v := 0) hG rfl rfl ?_
      refine q_iret5 hG rfl rfl (by decide) ?_
      exact p0 (by omega)
    · refine q_iconst (v := 1) hG rfl rfl ?_
      refine q_goto hG rfl ?_
      refine q_iret5 hG rfl rfl (by decide) ?_
      exact p1 (by omega)
theorem s_R_isDoor {d : Nat} {B : HP} {I : IM} {Post : Out → HP → Prop} {m : Nat} (hm : oM B m) {x : Int} (hx : r32 x) (hn : 0 ≤ I (m + 1) 0 ∧ I (m + 1) 0 ≤ 6) (p1 : 0 ≤ x ∧ x < I (m + 1) 0 → Post (.inl (some (.int (i3 1)))) (wI B I)) (p0 : ¬ (0 ≤ x ∧ x < I (m + 1) 0) → Post (.inl (some (.int (i3 0)))) (wI B I)) : Sp (d + 2) k_X9_isDoor [.ref m, .int (i3 (x))] (wI B I) Post := by
  refine Sp_intro md_X9_isDoor rfl rfl (fun G hG => ?_)
  have hm0 := hm
  obtain ⟨n1, n2, n3, n4, n5, n6, n7, n8, n9, n10, n11⟩ := hm
  show G 0 [some (.ref m), some (.int (i3 (x)))] [] (wI B I)
  refine q_iload_n hG rfl rfl ?_
  refine q_iconst (v := 0) hG rfl rfl ?_
  refine q_aload_n hG rfl rfl ?_
  refine q_getR hG rfl (by assumption) (by assumption) ?_
  refine q_iconst (v := 0) hG rfl rfl ?_
  refine q_ialdv (v := I (m + 1) 0) hG rfl (by assumption) ⟨by omega, by omega, by omega⟩ rfl ?_
  refine q_iconst (v := 1) hG rfl rfl ?_
  refine q_isub hG rfl ?_
  refine q_callS0 hG rfl rfl rfl (s_R_in hx r32_0 ⟨by omega, by omega⟩ (fun hi => ?_) (fun hi => ?_))
  · refine q_iret5 hG rfl rfl (by decide) ?_
    exact p1 (by omega)
  · refine q_iret5 hG rfl rfl (by decide) ?_
    exact p0 (by omega)
theorem s_R_rule {d : Nat} {B : HP} {I : IM} {Post : Out → HP → Prop} {m : Nat} (hm : oM B m) {x : Int} (hx : r32 x) (hn : 0 ≤ I (m + 1) 1 ∧ I (m + 1) 1 ≤ 10) (hf : ∀ k : Nat, (k : Int) < I (m + 1) 1 → r32 (cR I m k 0)) (p1 : ∀ p : Nat, fst (fun k => cR I m k 0 = x) (I (m + 1) 1).toNat p → Post (.inl (some (.int (i3 (p : Int))))) (wI B I)) (p0 : (∀ k, k < (I (m + 1) 1).toNat → ¬ cR I m k 0 = x) → Post (.inl (some (.int (i3 (-1))))) (wI B I)) : Sp (d + 2) k_X9_rule [.ref m, .int (i3 (x))] (wI B I) Post := by
  refine Sp_intro md_X9_rule rfl rfl (fun G hG => ?_)
  have hm0 := hm
  obtain ⟨n1, n2, n3, n4, n5, n6, n7, n8, n9, n10, n11⟩ := hm
  have lp : ∀ (mz : Nat) (k : Nat), (I (m + 1) 1).toNat - k = mz → k ≤ (I (m + 1) 1).toNat → (∀ q, q < k → ¬ cR I m q 0 = x) → G 2 [some (.ref m), some (.int (i3 x)), some (.int (i3 (k : Int)))] [] (wI B I) := by
    intro mz
    induction mz using Nat.strongRecOn with
    | ind mz ih =>
      intro k hme hk hq0
      refine q_iload_n hG rfl rfl ?_
      refine q_aload_n hG rfl rfl ?_
      refine q_getR hG rfl (by assumption) (by assumption) ?_
      refine q_iconst (v := 1) hG rfl rfl ?_
      refine q_ialdv (v := I (m + 1) 1) hG rfl (by assumption) ⟨by omega, by omega, by omega⟩ rfl ?_
      refine q_icmp_ge hG rfl ⟨by omega, by omega⟩ ⟨by omega, by omega⟩ (fun hc9 => ?_) (fun hc9 => ?_)
      · refine q_iconst (v := -1) hG rfl rfl ?_
        refine q_iret0 hG rfl rfl ?_
        exact p0 (fun q hq => hq0 q (by omega))
      · refine q_aload_n hG rfl rfl ?_
        refine q_iload_n hG rfl rfl ?_
        refine q_iconst (v := 0) hG rfl rfl ?_
        refine q_callV6 hG rfl rfl rfl (by assumption) (s_R_cN (w := 0) hm0 (by omega) (by decide) ?_)
        refine q_iload_n hG rfl rfl ?_
        refine q_icmp_ne hG rfl (hf k (by omega)) (hx) (fun hc19 => ?_) (fun hc19 => ?_)
        · refine q_iinc (c := 1) hG rfl rfl rfl rfl ?_
          refine q_goto hG rfl ?_
          exact ih _ (by omega) (k + 1) rfl (by omega) (fun q hq => if e : q = k then by subst e; exact hc19 else hq0 q (by omega))
        · refine q_iload_n hG rfl rfl ?_
          refine q_iret0 hG rfl rfl ?_
          exact p1 k ⟨by omega, by omega, hq0⟩
  show G 0 [some (.ref m), some (.int (i3 (x))), none] [] (wI B I)
  refine q_iconst (v := 0) hG rfl rfl ?_
  refine q_istore_n hG rfl rfl ?_
  exact lp _ 0 rfl (by omega) (fun q hq => by omega)
theorem s_R_width {d : Nat} {B : HP} {I : IM} {Post : Out → HP → Prop} {m : Nat} (hm : oM B m) {x : Int} (hx : 0 ≤ x ∧ x < 6) (hp : Post (.inl (some (.int (i3 (dR I m x.toNat 3 - dR I m x.toNat 2 + 1))))) (wI B I)) : Sp (d + 2) k_X9_width [.ref m, .int (i3 (x))] (wI B I) Post := by
  refine Sp_intro md_X9_width rfl rfl (fun G hG => ?_)
  have hm0 := hm
  obtain ⟨n1, n2, n3, n4, n5, n6, n7, n8, n9, n10, n11⟩ := hm
  show G 0 [some (.ref m), some (.int (i3 (x)))] [] (wI B I)
  refine q_aload_n hG rfl rfl ?_
  refine q_iload_n hG rfl rfl ?_
  refine q_iconst (v := 3) hG rfl rfl ?_
  refine q_callV6 hG rfl rfl rfl (by assumption) (s_R_d (w := 3) hm0 ⟨by omega, by omega⟩ (by decide) ?_)
  refine q_aload_n hG rfl rfl ?_
  refine q_iload_n hG rfl rfl ?_
  refine q_iconst (v := 2) hG rfl rfl ?_
  refine q_callV6 hG rfl rfl rfl (by assumption) (s_R_d (w := 2) hm0 ⟨by omega, by omega⟩ (by decide) ?_)
  refine q_isub hG rfl ?_
  refine q_iconst (v := 1) hG rfl rfl ?_
  refine q_iadd hG rfl ?_
  refine q_iret0 hG rfl rfl ?_
  exact hp
theorem s_R_takes {d : Nat} {B : HP} {I : IM} {Post : Out → HP → Prop} {m : Nat} (hm : oM B m) {x : Int} (hx : r32 x) (hn : 0 ≤ I (m + 1) 1 ∧ I (m + 1) 1 ≤ 10) (hf : ∀ k : Nat, (k : Int) < I (m + 1) 1 → r32 (cR I m k 2) ∧ r32 (cR I m k 3)) (hp : Post (.inl (some (.int (i3 (sm (fun k => if cR I m k 2 = x ∨ cR I m k 3 = x then 1 else 0) (I (m + 1) 1).toNat))))) (wI B I)) : Sp (d + 2) k_X9_takesPart [.ref m, .int (i3 (x))] (wI B I) Post := by
  refine Sp_intro md_X9_takesPart rfl rfl (fun G hG => ?_)
  have hm0 := hm
  obtain ⟨n1, n2, n3, n4, n5, n6, n7, n8, n9, n10, n11⟩ := hm
  have lp : ∀ (mz : Nat) (k : Nat), (I (m + 1) 1).toNat - k = mz → k ≤ (I (m + 1) 1).toNat → G 4 [some (.ref m), some (.int (i3 x)), some (.int (i3 (sm (fun k => if cR I m k 2 = x ∨ cR I m k 3 = x then 1 else 0) k))), some (.int (i3 (k : Int)))] [] (wI B I) := by
    intro mz
    induction mz using Nat.strongRecOn with
    | ind mz ih =>
      intro k hme hk
      refine q_iload_n hG rfl rfl ?_
      refine q_aload_n hG rfl rfl ?_
      refine q_getR hG rfl (by assumption) (by assumption) ?_
      refine q_iconst (v := 1) hG rfl rfl ?_
      refine q_ialdv (v := I (m + 1) 1) hG rfl (by assumption) ⟨by omega, by omega, by omega⟩ rfl ?_
      refine q_icmp_ge hG rfl ⟨by omega, by omega⟩ ⟨by omega, by omega⟩ (fun hc11 => ?_) (fun hc11 => ?_)
      · refine q_iload_n hG rfl rfl ?_
        refine q_iret0 hG rfl rfl ?_
        rw [show (I (m + 1) 1).toNat = k by omega] at hp
        exact hp
      · refine q_iload_n hG rfl rfl ?_
        refine q_aload_n hG rfl rfl ?_
        refine q_iload_n hG rfl rfl ?_
        refine q_iconst (v := 2) hG rfl rfl ?_
        refine q_callV6 hG rfl rfl rfl (by assumption) (s_R_cN (w := 2) hm0 (by omega) (by decide) ?_)
        refine q_iload_n hG rfl rfl ?_
        refine q_icmp_eq hG rfl ((hf k (by omega)).1) (hx) (fun hc22 => ?_) (fun hc22 => ?_)
        · refine q_iconst (v := 1) hG rfl rfl ?_
          refine q_goto hG rfl ?_
          refine q_iadd hG rfl ?_
          refine q_istore_n hG rfl rfl ?_
          refine q_iinc (c := 1) hG rfl rfl rfl rfl ?_
          refine q_goto hG rfl ?_
          refine Eq.mp ?_ (ih _ (by omega) (k + 1) rfl (by omega))
          congr 1
          show [_, _, some (Value.int (i3 (sm _ k + (if cR I m k 2 = x ∨ cR I m k 3 = x then 1 else 0)))), _] = [_, _, _, _]
          first
          | rw [if_pos (by omega)]; rfl
          | rw [if_neg (by omega)]; rfl
        · refine q_aload_n hG rfl rfl ?_
          refine q_iload_n hG rfl rfl ?_
          refine q_iconst (v := 3) hG rfl rfl ?_
          refine q_callV6 hG rfl rfl rfl (by assumption) (s_R_cN (w := 3) hm0 (by omega) (by decide) ?_)
          refine q_iload_n hG rfl rfl ?_
          refine q_icmp_ne hG rfl ((hf k (by omega)).2) (hx) (fun hc32 => ?_) (fun hc32 => ?_)
          · refine q_iconst (v := 0) hG rfl rfl ?_
            refine q_iadd hG rfl ?_
            refine q_istore_n hG rfl rfl ?_
            refine q_iinc (c := 1) hG rfl rfl rfl rfl ?_
            refine q_goto hG rfl ?_
            refine Eq.mp ?_ (ih _ (by omega) (k + 1) rfl (by omega))
            congr 1
            show [_, _, some (Value.int (i3 (sm _ k + (if cR I m k 2 = x ∨ cR I m k 3 = x then 1 else 0)))), _] = [_, _, _, _]
            first
            | rw [if_pos (by omega)]; rfl
            | rw [if_neg (by omega)]; rfl
          · refine q_iconst (v := 1) hG rfl rfl ?_
            refine q_goto hG rfl ?_
            refine q_iadd hG rfl ?_
            refine q_istore_n hG rfl rfl ?_
            refine q_iinc (c := 1) hG rfl rfl rfl rfl ?_
            refine q_goto hG rfl ?_
            refine Eq.mp ?_ (ih _ (by omega) (k + 1) rfl (by omega))
            congr 1
            show [_, _, some (Value.int (i3 (sm _ k + (if cR I m k 2 = x ∨ cR I m k 3 = x then 1 else 0)))), _] = [_, _, _, _]
            first
            | rw [if_pos (by omega)]; rfl
            | rw [if_neg (by omega)]; rfl
  show G 0 [some (.ref m), some (.int (i3 (x))), none, none] [] (wI B I)
  refine q_iconst (v := 0) hG rfl rfl ?_
  refine q_istore_n hG rfl rfl ?_
  refine q_iconst (v := 0) hG rfl rfl ?_
  refine q_istore_n hG rfl rfl ?_
  exact lp _ 0 rfl (by omega)
theorem s_R_isRange {d : Nat} {B : HP} {I : IM} {Post : Out → HP → Prop} {a b : Int} (ha : r32 a) (hb : r32 b) (p1 : 0 ≤ a ∧ a ≤ b ∧ b ≤ 40 → Post (.inl (some (.int (i3 1)))) (wI B I)) (p0 : ¬ (0 ≤ a ∧ a ≤ b ∧ b ≤ 40) → Post (.inl (some (.int (i3 0)))) (wI B I)) : Sp (d + 2) k_X9_isRange [.int (i3 (a)), .int (i3 (b))] (wI B I) Post := by
  refine Sp_intro md_X9_isRange rfl rfl (fun G hG => ?_)
  show G 0 [some (.int (i3 (a))), some (.int (i3 (b)))] [] (wI B I)
  refine q_iload_n hG rfl rfl ?_
  refine q_iconst (v := 0) hG rfl rfl ?_
  refine q_bipush (v := 40) hG rfl rfl ?_
  refine q_callS0 hG rfl rfl rfl (s_R_in ha r32_0 ⟨by omega, by omega⟩ (fun hi => ?_) (fun hi => ?_))
  · refine q_if_eq hG rfl ⟨by omega, by omega⟩ (fun q => absurd q (by decide)) (fun _ => ?_)
    refine q_iload_n hG rfl rfl ?_
    refine q_iload_n hG rfl rfl ?_
    refine q_bipush (v := 40) hG rfl rfl ?_
    refine q_callS0 hG rfl rfl rfl (s_R_in hb ha ⟨by omega, by omega⟩ (fun hi => ?_) (fun hi => ?_))
    · refine q_if_eq hG rfl ⟨by omega, by omega⟩ (fun q => absurd q (by decide)) (fun _ => ?_)
      refine q_iconst (v := 1) hG rfl rfl ?_
      refine q_goto hG rfl ?_
      refine q_iret5 hG rfl rfl (by decide) ?_
      exact p1 (by omega)
    · refine q_if_eq hG rfl ⟨by omega, by omega⟩ (fun _ => ?_) (fun q => absurd (by decide) q)
      refine q_iconst (v := 0) hG rfl rfl ?_
      refine q_iret5 hG rfl rfl (by decide) ?_
      exact p0 (by omega)
  · refine q_if_eq hG rfl ⟨by omega, by omega⟩ (fun _ => ?_) (fun q => absurd (by decide) q)
    refine q_iconst (v := 0) hG rfl rfl ?_
    refine q_iret5 hG rfl rfl (by decide) ?_
    exact p0 (by omega)
theorem s_R_rejects {d : Nat} {B : HP} {I : IM} {Post : Out → HP → Prop} {m : Nat} (hm : oM B m) {x y : Int} (hp : Post (.inl (some (.int (i3 3)))) (wI B (st (st I m 8 x) m 9 y))) : Sp (d + 1) k_X9_rejects [.ref m, .int (i3 (x)), .int (i3 (y))] (wI B I) Post := by
  refine Sp_intro md_X9_rejects rfl rfl (fun G hG => ?_)
  have hm0 := hm
  obtain ⟨n1, n2, n3, n4, n5, n6, n7, n8, n9, n10, n11⟩ := hm
  show G 0 [some (.ref m), some (.int (i3 (x))), some (.int (i3 (y)))] [] (wI B I)
  refine q_aload_n hG rfl rfl ?_
  refine q_iload_n hG rfl rfl ?_
  refine q_putI0 hG rfl (by assumption) ?_
  refine q_aload_n hG rfl rfl ?_
  refine q_iload_n hG rfl rfl ?_
  refine q_putI0 hG rfl (by assumption) ?_
  refine q_iconst (v := 3) hG rfl rfl ?_
  refine q_iret0 hG rfl rfl ?_
  exact hp
theorem s_R_fine0 {d : Nat} {B : HP} {I : IM} {Post : Out → HP → Prop} {m : Nat} (hm : oM B m)  (hp : Post (.inl (some (.int (i3 0)))) (wI B (st I m 0 1))) : Sp (d + 1) k_X9_isFine [.ref m, .int (i3 (0))] (wI B I) Post := by
  refine Sp_intro md_X9_isFine rfl rfl (fun G hG => ?_)
  have hm0 := hm
  obtain ⟨n1, n2, n3, n4, n5, n6, n7, n8, n9, n10, n11⟩ := hm
  show G 0 [some (.ref m), some (.int (i3 (0)))] [] (wI B I)
  refine q_aload_n hG rfl rfl ?_
  refine q_iload_n hG rfl rfl ?_
  refine q_if_eq hG rfl ⟨by omega, by omega⟩ (fun hc2 => ?_) (fun hc2 => absurd (by omega) hc2)
  refine q_iconst (v := 1) hG rfl rfl ?_
  refine q_putI0 hG rfl (by assumption) ?_
  refine q_iload_n hG rfl rfl ?_
  refine q_iret5 hG rfl rfl (by omega) ?_
  exact hp
theorem s_R_fine1 {d : Nat} {B : HP} {I : IM} {Post : Out → HP → Prop} {m : Nat} (hm : oM B m)  (hp : Post (.inl (some (.int (i3 1)))) (wI B (st I m 0 0))) : Sp (d + 1) k_X9_isFine [.ref m, .int (i3 (1))] (wI B I) Post := by
  refine Sp_intro md_X9_isFine rfl rfl (fun G hG => ?_)
  have hm0 := hm
  obtain ⟨n1, n2, n3, n4, n5, n6, n7, n8, n9, n10, n11⟩ := hm
  show G 0 [some (.ref m), some (.int (i3 (1)))] [] (wI B I)
  refine q_aload_n hG rfl rfl ?_
  refine q_iload_n hG rfl rfl ?_
  refine q_if_eq hG rfl ⟨by omega, by omega⟩ (fun hc2 => absurd hc2 (by omega)) (fun hc2 => ?_)
  refine q_iconst (v := 0) hG rfl rfl ?_
  refine q_goto hG rfl ?_
  refine q_putI0 hG rfl (by assumption) ?_
  refine q_iload_n hG rfl rfl ?_
  refine q_iret5 hG rfl rfl (by omega) ?_
  exact hp
theorem s_R_bec1 {d : Nat} {B : HP} {I : IM} {Post : Out → HP → Prop} {m : Nat} (hm : oM B m) {x v : Int} {w : Nat} (hx : 0 ≤ x ∧ x < 200) (hw : w < 4) (hp : Post (.inl none) (wI B (st (st I (m + 1) (5 + 4 * x.toNat + w) v) m 10 (I m 10 + 1)))) : Sp (d + 2) k_X9_becomes [.ref m, .int (i3 (x)), .int (i3 ((w : Int))), .int (i3 (1)), .int (i3 (v))] (wI B I) Post := by
  refine Sp_intro md_X9_becomes rfl rfl (fun G hG => ?_)
  have hm0 := hm
  obtain ⟨n1, n2, n3, n4, n5, n6, n7, n8, n9, n10, n11⟩ := hm
  show G 0 [some (.ref m), some (.int (i3 (x))), some (.int (i3 ((w : Int)))), some (.int (i3 (1))), some (.int (i3 (v)))] [] (wI B I)
  refine q_iload_n hG rfl rfl ?_
  refine q_if_ne hG rfl ⟨by omega, by omega⟩ (fun hc1 => ?_) (fun hc1 => absurd (by omega) hc1)
  refine q_aload_n hG rfl rfl ?_
  refine q_iload_n hG rfl rfl ?_
  refine q_iload_n hG rfl rfl ?_
  refine q_iload hG rfl rfl ?_
  refine q_callV6 hG rfl rfl rfl (by assumption) (s_R_set hm0 hx hw ?_)
  refine q_aload_n hG rfl rfl ?_
  refine q_dup hG rfl rfl ?_
  refine q_getI0v (v := I m 10) hG rfl (by assumption) (by rw [st_row _ _ (by omega)]) ?_
  refine q_iconst (v := 1) hG rfl rfl ?_
  refine q_iadd hG rfl ?_
  refine q_putI0 hG rfl (by assumption) ?_
  refine q_vret hG rfl ?_
  exact hp
theorem s_R_bec0 {d : Nat} {B : HP} {I : IM} {Post : Out → HP → Prop} {m : Nat} (hm : oM B m) {x v : Int} {w : Nat} (hp : Post (.inl none) (wI B I)) : Sp (d + 2) k_X9_becomes [.ref m, .int (i3 (x)), .int (i3 ((w : Int))), .int (i3 (0)), .int (i3 (v))] (wI B I) Post := by
  refine Sp_intro md_X9_becomes rfl rfl (fun G hG => ?_)
  have hm0 := hm
  obtain ⟨n1, n2, n3, n4, n5, n6, n7, n8, n9, n10, n11⟩ := hm
  show G 0 [some (.ref m), some (.int (i3 (x))), some (.int (i3 ((w : Int)))), some (.int (i3 (0))), some (.int (i3 (v)))] [] (wI B I)
  refine q_iload_n hG rfl rfl ?_
  refine q_if_ne hG rfl ⟨by omega, by omega⟩ (fun hc1 => absurd hc1 (by omega)) (fun hc1 => ?_)
  refine q_vret hG rfl ?_
  exact hp
theorem s_R_raises {d : Nat} {B : HP} {I : IM} {Post : Out → HP → Prop} {m : Nat} (hm : oM B m) {x v : Int} (hx : 0 ≤ x ∧ x < 6) (h1 : r32 (dR I m x.toNat 2)) (h2 : r32 v) (hp : ∀ J : IM, rfS J m = rsM (rfS I m) x.toNat v → rfr I J m → Post (.inl none) (wI B J)) : Sp (d + 3) k_X9_raises [.ref m, .int (i3 (x)), .int (i3 (v))] (wI B I) Post := by
  refine Sp_intro md_X9_raises rfl rfl (fun G hG => ?_)
  have hm0 := hm
  obtain ⟨n1, n2, n3, n4, n5, n6, n7, n8, n9, n10, n11⟩ := hm
  show G 0 [some (.ref m), some (.int (i3 (x))), some (.int (i3 (v)))] [] (wI B I)
  refine q_aload_n hG rfl rfl ?_
  refine q_iload_n hG rfl rfl ?_
  refine q_iconst (v := 2) hG rfl rfl ?_
  refine q_aload_n hG rfl rfl ?_
  refine q_iload_n hG rfl rfl ?_
  refine q_iconst (v := 2) hG rfl rfl ?_
  refine q_callV6 hG rfl rfl rfl (by assumption) (s_R_d (w := 2) hm0 ⟨by omega, by omega⟩ (by decide) ?_)
  refine q_iload_n hG rfl rfl ?_
  refine q_icmp_ge hG rfl (h1) (h2) (fun hc10 => ?_) (fun hc10 => ?_)
  · refine q_iconst (v := 0) hG rfl rfl ?_
    refine q_iload_n hG rfl rfl ?_
    refine q_callV6 hG rfl rfl rfl (by assumption) (s_R_bec0 (w := 2) hm0 ?_)
    refine q_vret hG rfl ?_
    refine hp _ ?_ (rfr.refl I m)
    unfold rsM
    rw [if_neg (show ¬ (rfS I m).1 x.toNat < v by show ¬ dR I m x.toNat 2 < v; omega)]
  · refine q_iconst (v := 1) hG rfl rfl ?_
    refine q_goto hG rfl ?_
    refine q_iload_n hG rfl rfl ?_
    refine q_callV6 hG rfl rfl rfl (by assumption) (s_R_bec1 (w := 2) hm0 ⟨by omega, by omega⟩ (by decide) ?_)
    refine q_vret hG rfl ?_
    obtain ⟨e1, e2⟩ := rfr_lo (I := I) (m := m) (x := x.toNat) (v := v) (by omega)
    refine hp _ ?_ e2
    rw [e1]
    unfold rsM
    rw [if_pos (show (rfS I m).1 x.toNat < v by show dR I m x.toNat 2 < v; omega)]
theorem s_R_lowers {d : Nat} {B : HP} {I : IM} {Post : Out → HP → Prop} {m : Nat} (hm : oM B m) {x v : Int} (hx : 0 ≤ x ∧ x < 6) (h1 : r32 (dR I m x.toNat 3)) (h2 : r32 v) (hp : ∀ J : IM, rfS J m = skM (rfS I m) x.toNat v → rfr I J m → Post (.inl none) (wI B J)) : Sp (d + 3) k_X9_lowers [.ref m, .int (i3 (x)), .int (i3 (v))] (wI B I) Post := by
  refine Sp_intro md_X9_lowers rfl rfl (fun G hG => ?_)
  have hm0 := hm
  obtain ⟨n1, n2, n3, n4, n5, n6, n7, n8, n9, n10, n11⟩ := hm
  show G 0 [some (.ref m), some (.int (i3 (x))), some (.int (i3 (v)))] [] (wI B I)
  refine q_aload_n hG rfl rfl ?_
  refine q_iload_n hG rfl rfl ?_
  refine q_iconst (v := 3) hG rfl rfl ?_
  refine q_aload_n hG rfl rfl ?_
  refine q_iload_n hG rfl rfl ?_
  refine q_iconst (v := 3) hG rfl rfl ?_
  refine q_callV6 hG rfl rfl rfl (by assumption) (s_R_d (w := 3) hm0 ⟨by omega, by omega⟩ (by decide) ?_)
  refine q_iload_n hG rfl rfl ?_
  refine q_icmp_le hG rfl (h1) (h2) (fun hc10 => ?_) (fun hc10 => ?_)
  · refine q_iconst (v := 0) hG rfl rfl ?_
    refine q_iload_n hG rfl rfl ?_
    refine q_callV6 hG rfl rfl rfl (by assumption) (s_R_bec0 (w := 3) hm0 ?_)
    refine q_vret hG rfl ?_
    refine hp _ ?_ (rfr.refl I m)
    unfold skM
    rw [if_neg (show ¬ v < (rfS I m).2.1 x.toNat by show ¬ v < dR I m x.toNat 3; omega)]
  · refine q_iconst (v := 1) hG rfl rfl ?_
    refine q_goto hG rfl ?_
    refine q_iload_n hG rfl rfl ?_
    refine q_callV6 hG rfl rfl rfl (by assumption) (s_R_bec1 (w := 3) hm0 ⟨by omega, by omega⟩ (by decide) ?_)
    refine q_vret hG rfl ?_
    obtain ⟨e1, e2⟩ := rfr_hi (I := I) (m := m) (x := x.toNat) (v := v) (by omega)
    refine hp _ ?_ e2
    rw [e1]
    unfold skM
    rw [if_pos (show v < (rfS I m).2.1 x.toNat by show v < dR I m x.toNat 3; omega)]
theorem s_R_fixed {d : Nat} {B : HP} {I : IM} {Post : Out → HP → Prop} {m : Nat} (hm : oM B m) {x : Int} (hx : 0 ≤ x ∧ x < 6) (h1 : r32 (dR I m x.toNat 2)) (h2 : r32 (dR I m x.toNat 3)) (p1 : dR I m x.toNat 2 = dR I m x.toNat 3 → Post (.inl (some (.int (i3 1)))) (wI B I)) (p0 : ¬ (dR I m x.toNat 2 = dR I m x.toNat 3) → Post (.inl (some (.int (i3 0)))) (wI B I)) : Sp (d + 2) k_X9_isFixedNow [.ref m, .int (i3 (x))] (wI B I) Post := by
  refine Sp_intro md_X9_isFixedNow rfl rfl (fun G hG => ?_)
  have hm0 := hm
  obtain ⟨n1, n2, n3, n4, n5, n6, n7, n8, n9, n10, n11⟩ := hm
  show G 0 [some (.ref m), some (.int (i3 (x)))] [] (wI B I)
  refine q_aload_n hG rfl rfl ?_
  refine q_iload_n hG rfl rfl ?_
  refine q_iconst (v := 2) hG rfl rfl ?_
  refine q_callV6 hG rfl rfl rfl (by assumption) (s_R_d (w := 2) hm0 ⟨by omega, by omega⟩ (by decide) ?_)
  refine q_aload_n hG rfl rfl ?_
  refine q_iload_n hG rfl rfl ?_
  refine q_iconst (v := 3) hG rfl rfl ?_
  refine q_callV6 hG rfl rfl rfl (by assumption) (s_R_d (w := 3) hm0 ⟨by omega, by omega⟩ (by decide) ?_)
  refine q_icmp_ne hG rfl (h1) (h2) (fun hc12 => ?_) (fun hc12 => ?_)
  · refine q_iconst (v := 0) hG rfl rfl ?_
    refine q_iret5 hG rfl rfl (by decide) ?_
    exact p0 (by omega)
  · refine q_iconst (v := 1) hG rfl rfl ?_
    refine q_goto hG rfl ?_
    refine q_iret5 hG rfl rfl (by decide) ?_
    exact p1 (by omega)
theorem s_R_torn {d : Nat} {B : HP} {I : IM} {Post : Out → HP → Prop} {m : Nat} (hm : oM B m) {x : Int} (hx : 0 ≤ x ∧ x < 6) (h1 : r32 (dR I m x.toNat 2)) (h2 : r32 (dR I m x.toNat 3)) (p1 : dR I m x.toNat 3 < dR I m x.toNat 2 → Post (.inl (some (.int (i3 1)))) (wI B I)) (p0 : ¬ (dR I m x.toNat 3 < dR I m x.toNat 2) → Post (.inl (some (.int (i3 0)))) (wI B I)) : Sp (d + 2) k_X9_isTorn [.ref m, .int (i3 (x))] (wI B I) Post := by
  refine Sp_intro md_X9_isTorn rfl rfl (fun G hG => ?_)
  have hm0 := hm
  obtain ⟨n1, n2, n3, n4, n5, n6, n7, n8, n9, n10, n11⟩ := hm
  show G 0 [some (.ref m), some (.int (i3 (x)))] [] (wI B I)
  refine q_aload_n hG rfl rfl ?_
  refine q_iload_n hG rfl rfl ?_
  refine q_iconst (v := 2) hG rfl rfl ?_
  refine q_callV6 hG rfl rfl rfl (by assumption) (s_R_d (w := 2) hm0 ⟨by omega, by omega⟩ (by decide) ?_)
  refine q_aload_n hG rfl rfl ?_
  refine q_iload_n hG rfl rfl ?_
  refine q_iconst (v := 3) hG rfl rfl ?_
  refine q_callV6 hG rfl rfl rfl (by assumption) (s_R_d (w := 3) hm0 ⟨by omega, by omega⟩ (by decide) ?_)
  refine q_icmp_le hG rfl (h1) (h2) (fun hc12 => ?_) (fun hc12 => ?_)
  · refine q_iconst (v := 0) hG rfl rfl ?_
    refine q_iret5 hG rfl rfl (by decide) ?_
    exact p0 (by omega)
  · refine q_iconst (v := 1) hG rfl rfl ?_
    refine q_goto hG rfl ?_
    refine q_iret5 hG rfl rfl (by decide) ?_
    exact p1 (by omega)
theorem s_R_copies {d : Nat} {B : HP} {I : IM} {Post : Out → HP → Prop} {m : Nat} (hm : oM B m) {a b : Nat} (ha : a < 12) (hb : b < 12) (hp : ∀ J : IM, (∀ j, j < 79 → J (m + 1) (79 * b + j) = I (m + 1) (79 * a + j)) → (∀ j, (j < 79 * b ∨ 79 * b + 79 ≤ j) → J (m + 1) j = I (m + 1) j) → (∀ q, q ≠ m + 1 → J q = I q) → Post (.inl none) (wI B J)) : Sp (d + 1) k_X9_copies [.ref m, .int (i3 ((a : Int))), .int (i3 ((b : Int)))] (wI B I) Post := by
  refine Sp_intro md_X9_copies rfl rfl (fun G hG => ?_)
  have hm0 := hm
  obtain ⟨n1, n2, n3, n4, n5, n6, n7, n8, n9, n10, n11⟩ := hm
  have lp : ∀ (mz : Nat) (k : Nat) (J : IM), 79 - k = mz → k ≤ 79 → (∀ j, j < k → J (m + 1) (79 * b + j) = I (m + 1) (79 * a + j)) → (∀ j, (j < 79 * b ∨ 79 * b + k ≤ j) → J (m + 1) j = I (m + 1) j) → (∀ q, q ≠ m + 1 → J q = I q) → G 2 [some (.ref m), some (.int (i3 (a : Int))), some (.int (i3 (b : Int))), some (.int (i3 (k : Int)))] [] (wI B J) := by
    intro mz
    induction mz using Nat.strongRecOn with
    | ind mz ih =>
      intro k J hme hk h1 h2 h3
      refine q_iload_n hG rfl rfl ?_
      refine q_bipush (v := 79) hG rfl rfl ?_
      refine q_icmp_ge hG rfl ⟨by omega, by omega⟩ ⟨by omega, by omega⟩ (fun hc5 => ?_) (fun hc5 => ?_)
      · refine q_vret hG rfl ?_
        exact hp _ (fun j hj => h1 j (by omega)) (fun j hj => h2 j (by omega)) h3
      · refine q_aload_n hG rfl rfl ?_
        refine q_getR hG rfl (by assumption) (by assumption) ?_
        refine q_bipush (v := 79) hG rfl rfl ?_
        refine q_iload_n hG rfl rfl ?_
        refine q_imul hG rfl ?_
        refine q_iload_n hG rfl rfl ?_
        refine q_iadd hG rfl ?_
        refine q_aload_n hG rfl rfl ?_
        refine q_getR hG rfl (by assumption) (by assumption) ?_
        refine q_bipush (v := 79) hG rfl rfl ?_
        refine q_iload_n hG rfl rfl ?_
        refine q_imul hG rfl ?_
        refine q_iload_n hG rfl rfl ?_
        refine q_iadd hG rfl ?_
        refine q_ialdv (v := J (m + 1) (79 * a + k)) hG rfl (by assumption) ⟨by omega, by omega, by omega⟩ (by congr 1 <;> omega) ?_
        refine q_iast hG rfl (by assumption) ⟨by omega, by omega, by omega⟩ ?_
        refine q_iinc (c := 1) hG rfl rfl rfl rfl ?_
        refine q_goto hG rfl ?_
        have hself : J (m + 1) (79 * a + k) = I (m + 1) (79 * a + k) := by
          by_cases e : a = b
          · subst e; exact h2 _ (by omega)
          · exact h2 _ (by omega)
        have ei : (79 * (b : Int) + (k : Int)).toNat = 79 * b + k := by omega
        refine ih _ (by omega) (k + 1) _ rfl (by omega) (fun j hj => ?_) (fun j hj => ?_) (fun q hq => ?_)
        · rw [ei]
          by_cases e : j = k
          · subst e; rw [st_same, hself]
          · rw [st_ne _ _ (by omega)]; exact h1 j (by omega)
        · rw [ei, st_ne _ _ (by omega)]; exact h2 j (by omega)
        · rw [st_row _ _ hq]; exact h3 q hq
  show G 0 [some (.ref m), some (.int (i3 ((a : Int)))), some (.int (i3 ((b : Int)))), none] [] (wI B I)
  refine q_iconst (v := 0) hG rfl rfl ?_
  refine q_istore_n hG rfl rfl ?_
  exact lp _ 0 I rfl (by omega) (fun j hj => by omega) (fun _ _ => rfl) (fun _ _ => rfl)
