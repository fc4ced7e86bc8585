/-! the class: where its parts stand -/
def LX (B : HP) : Prop := hK B 0 = (18, 0) ∧ hR B 0 0 = some 1 ∧ hR B 0 1 = some 14 ∧ hR B 0 2 = some 133 ∧ hR B 0 4 = some 146 ∧ hR B 0 5 = some 149 ∧ hR B 0 6 = some 150 ∧ hR B 0 7 = some 153 ∧ hR B 0 8 = some 158 ∧ hR B 0 9 = some 160 ∧ oD B 1 ∧ oD B 133 ∧ oB B 146 ∧ hK B 149 = (15, 0) ∧ hK B 150 = (14, 0) ∧ hR B 150 0 = some 151 ∧ hR B 150 1 = some 152 ∧ hK B 151 = (1, 6) ∧ hK B 152 = (1, 10) ∧ hK B 153 = (16, 0) ∧ hR B 153 0 = some 154 ∧ hR B 153 2 = some 155 ∧ hK B 154 = (1, 6) ∧ hK B 155 = (14, 0) ∧ hR B 155 0 = some 156 ∧ hR B 155 1 = some 157 ∧ hK B 156 = (1, 6) ∧ hK B 157 = (1, 10) ∧ hK B 14 = (13, 0) ∧ hR B 14 2 = some 15 ∧ hK B 15 = (7, 9) ∧ (∀ i, i < 9 → hR B 15 i = some (16 + 13 * i) ∧ oD B (16 + 13 * i)) ∧ hK B 158 = (20, 0) ∧ hR B 158 0 = some 159 ∧ hK B 159 = (4, 16) ∧ hK B 160 = (17, 0) ∧ hR B 160 0 = some 161 ∧ hR B 160 3 = some 163 ∧ hR B 160 4 = some 164 ∧ hR B 160 5 = some 165 ∧ hK B 161 = (20, 0) ∧ hK B 163 = (1, 12) ∧ hK B 164 = (3, 12) ∧ hK B 165 = (6, 12) ∧ (∀ i, i < 12 → hR B 165 i = some (166 + i) ∧ hK B (166 + i) = (1, 3))
theorem fst_c {P Q : Nat → Prop} {n p : Nat} (h : ∀ k, k < n → (P k ↔ Q k)) (hp : fst P n p) : fst Q n p := ⟨hp.1, (h p hp.1).mp hp.2.1, fun q hq z => hp.2.2 q hq ((h q (by have := hp.1; omega)).mpr z)⟩
def dfr (I J : IM) : Prop := ∀ a, (a = 0 ∨ (14 ≤ a ∧ a ≤ 145) ∨ 150 ≤ a) → J a = I a
def rjf (I J : IM) (r d : Int) : Prop := J 0 = (fun k => if k = 11 then r else if k = 12 then d else I 0 k) ∧ ∀ a, (1 ≤ a ∧ a ≤ 145 ∨ 150 ≤ a) → J a = I a
theorem RepC.row {I J : IM} {b : Nat} {R : RW} (h : RepC I b R) (hr : ∀ a, b ≤ a → a ≤ b + 12 → J a = I a) : RepC J b R := by
  unfold RepC
  rw [hr b (by omega) (by omega), hr (b + 2) (by omega) (by omega), hr (b + 3) (by omega) (by omega), hr (b + 5) (by omega) (by omega), hr (b + 6) (by omega) (by omega), hr (b + 7) (by omega) (by omega), hr (b + 8) (by omega) (by omega), hr (b + 9) (by omega) (by omega), hr (b + 10) (by omega) (by omega), hr (b + 11) (by omega) (by omega), hr (b + 12) (by omega) (by omega)]
  exact h
theorem RepC.cWF {I : IM} {b : Nat} {R : RW} {q : Int} (h : RepC I b R) (hW : WfR q R) (hq : q ≤ 2000000000) : cWF I (b + 7) := by
  obtain ⟨-, r1, -, -, -, -, rc, -⟩ := h
  obtain ⟨w0, w1, w2, -, -, -, wc⟩ := hW
  refine ⟨by rw [r1]; exact w1, fun p hp => ?_⟩
  rw [r1] at hp
  obtain ⟨c1, c2, c3, c4, c5⟩ := rc p hp
  obtain ⟨v1, v2, v3, v4, v5, v6, v7⟩ := wc p hp
  refine ⟨?_, ?_, ?_, ?_, ?_⟩
  · show 0 ≤ I (b + 10) p ∧ I (b + 10) p < 6
    omega
  · show 0 ≤ I (b + 11) p ∧ I (b + 11) p < 6
    omega
  · show 0 ≤ I (b + 12) p ∧ I (b + 12) p ≤ 20
    omega
  · show I (b + 9) p = 60 ∨ I (b + 9) p = 61 ∨ I (b + 9) p = 35
    omega
  · show r32 (I (b + 8) p)
    exact ⟨by omega, by omega⟩
theorem RepC.cn {I : IM} {b : Nat} {R : RW} (h : RepC I b R) : ∀ p : Nat, (p : Int) < R 1 → cnI I (b + 7) p = cnR R p := fun p hp => by
  obtain ⟨-, -, -, -, -, -, rc, -⟩ := h
  obtain ⟨c1, c2, c3, c4, c5⟩ := rc p hp
  show (I (b + 9) p, (I (b + 10) p).toNat, (I (b + 11) p).toNat, I (b + 12) p) = _
  rw [c2, c3, c4, c5]
  rfl

theorem s_X_height {d : Nat} {B : HP} {I : IM} {Post : Out → HP → Prop} {v : Int} (hv : r32 v) (p1 : 0 ≤ v ∧ v ≤ 40 → Post (.inl (some (.int (i3 1)))) (wI B I)) (p0 : ¬ (0 ≤ v ∧ v ≤ 40) → Post (.inl (some (.int (i3 0)))) (wI B I)) : Sp (d + 1) k_X8_isHeight [.int (i3 (v))] (wI B I) Post := by
  refine Sp_intro md_X8_isHeight rfl rfl (fun G hG => ?_)
  show G 0 [some (.int (i3 (v)))] [] (wI B I)
  refine q_iload_n hG rfl rfl ?_
  refine q_if_lt hG rfl (hv) (fun hc1 => ?_) (fun hc1 => ?_)
  · refine q_iconst (v := 0) hG rfl rfl ?_
    refine q_iret5 hG rfl rfl (by decide) ?_
    exact p0 (by omega)
  · refine q_iload_n hG rfl rfl ?_
    refine q_bipush (v := 40) hG rfl rfl ?_
    refine q_icmp_gt hG rfl (hv) ⟨by omega, by omega⟩ (fun hc7 => ?_) (fun hc7 => ?_)
    · refine q_iconst (v := 0) hG rfl rfl ?_
      refine q_iret5 hG rfl rfl (by decide) ?_
      exact p0 (by omega)
    · refine q_iconst (v := 1) hG rfl rfl ?_
      refine q_goto hG rfl ?_
      refine q_iret5 hG rfl rfl (by decide) ?_
      exact p1 (by omega)
theorem s_X_range {d : Nat} {B : HP} {I : IM} {Post : Out → HP → Prop} {a b : Int} (ha : r32 a) (hb : r32 b) (p1 : rngP a b → Post (.inl (some (.int (i3 1)))) (wI B I)) (p0 : ¬ (rngP a b) → Post (.inl (some (.int (i3 0)))) (wI B I)) : Sp (d + 2) k_X8_isRange [.int (i3 (a)), .int (i3 (b))] (wI B I) Post := by
  refine Sp_intro md_X8_isRange rfl rfl (fun G hG => ?_)
  show G 0 [some (.int (i3 (a))), some (.int (i3 (b)))] [] (wI B I)
  refine q_iload_n hG rfl rfl ?_
  refine q_callS0 hG rfl rfl rfl (s_X_height ha (fun hi => ?_) (fun hi => ?_))
  · refine q_if_eq hG rfl ⟨by omega, by omega⟩ (fun q => absurd q (by decide)) (fun _ => ?_)
    refine q_iload_n hG rfl rfl ?_
    refine q_callS0 hG rfl rfl rfl (s_X_height hb (fun hi => ?_) (fun hi => ?_))
    · refine q_if_eq hG rfl ⟨by omega, by omega⟩ (fun q => absurd q (by decide)) (fun _ => ?_)
      refine q_iload_n hG rfl rfl ?_
      refine q_iload_n hG rfl rfl ?_
      refine q_icmp_gt hG rfl (ha) (hb) (fun hc16 => ?_) (fun hc16 => ?_)
      · refine q_iconst (v := 0) hG rfl rfl ?_
        refine q_iret5 hG rfl rfl (by decide) ?_
        exact p0 (fun z => by obtain ⟨z1, z2, z3⟩ := z; omega)
      · refine q_iconst (v := 1) hG rfl rfl ?_
        refine q_goto hG rfl ?_
        refine q_iret5 hG rfl rfl (by decide) ?_
        exact p1 ⟨by omega, by omega, by omega⟩
    · refine q_if_eq hG rfl ⟨by omega, by omega⟩ (fun _ => ?_) (fun q => absurd (by decide) q)
      refine q_iconst (v := 0) hG rfl rfl ?_
      refine q_iret5 hG rfl rfl (by decide) ?_
      exact p0 (fun z => by obtain ⟨z1, z2, z3⟩ := z; omega)
  · refine q_if_eq hG rfl ⟨by omega, by omega⟩ (fun _ => ?_) (fun q => absurd (by decide) q)
    refine q_iconst (v := 0) hG rfl rfl ?_
    refine q_iret5 hG rfl rfl (by decide) ?_
    exact p0 (fun z => by obtain ⟨z1, z2, z3⟩ := z; omega)
def cnP (kd f s g : Int) : Prop := (kd = 60 ∨ kd = 61 ∨ kd = 35) ∧ 0 ≤ g ∧ g ≤ 20 ∧ (kd = 35 → 1 ≤ g) ∧ f ≠ s
theorem s_X_isCon {d : Nat} {B : HP} {I : IM} {Post : Out → HP → Prop} {kd f s g : Int} (hx : r32 kd ∧ r32 f ∧ r32 s ∧ r32 g) (p1 : cnP kd f s g → Post (.inl (some (.int (i3 1)))) (wI B I)) (p0 : ¬ (cnP kd f s g) → Post (.inl (some (.int (i3 0)))) (wI B I)) : Sp (d + 1) k_X8_isConstraint [.int (i3 (kd)), .int (i3 (f)), .int (i3 (s)), .int (i3 (g))] (wI B I) Post := by
  refine Sp_intro md_X8_isConstraint rfl rfl (fun G hG => ?_)
  show G 0 [some (.int (i3 (kd))), some (.int (i3 (f))), some (.int (i3 (s))), some (.int (i3 (g))), none, none] [] (wI B I)
  refine q_iload_n hG rfl rfl ?_
  refine q_bipush (v := 60) hG rfl rfl ?_
  refine q_icmp_eq hG rfl (hx.1) ⟨by omega, by omega⟩ (fun hc3 => ?_) (fun hc3 => ?_)
  · refine q_iconst (v := 1) hG rfl rfl ?_
    refine q_goto hG rfl ?_
    refine q_istore hG rfl rfl ?_
    refine q_iload_n hG rfl rfl ?_
    refine q_bipush (v := 35) hG rfl rfl ?_
    refine q_icmp_ne hG rfl (hx.1) ⟨by omega, by omega⟩ (fun hc28 => ?_) (fun hc28 => ?_)
    · refine q_iconst (v := 0) hG rfl rfl ?_
      refine q_istore hG rfl rfl ?_
      refine q_iload hG rfl rfl ?_
      refine q_if_eq hG rfl ⟨by omega, by omega⟩ (fun q => absurd q (by decide)) (fun _ => ?_)
      refine q_iload_n hG rfl rfl ?_
      refine q_iload hG rfl rfl ?_
      refine q_icmp_lt hG rfl (hx.2.2.2) ⟨by omega, by omega⟩ (fun hc46 => ?_) (fun hc46 => ?_)
      · refine q_iconst (v := 0) hG rfl rfl ?_
        refine q_iret5 hG rfl rfl (by decide) ?_
        exact p0 (fun z => by obtain ⟨z1, z2, z3, z4, z5⟩ := z; omega)
      · refine q_iload_n hG rfl rfl ?_
        refine q_bipush (v := 20) hG rfl rfl ?_
        refine q_icmp_gt hG rfl (hx.2.2.2) ⟨by omega, by omega⟩ (fun hc52 => ?_) (fun hc52 => ?_)
        · refine q_iconst (v := 0) hG rfl rfl ?_
          refine q_iret5 hG rfl rfl (by decide) ?_
          exact p0 (fun z => by obtain ⟨z1, z2, z3, z4, z5⟩ := z; omega)
        · refine q_iload_n hG rfl rfl ?_
          refine q_iload_n hG rfl rfl ?_
          refine q_icmp_eq hG rfl (hx.2.1) (hx.2.2.1) (fun hc57 => ?_) (fun hc57 => ?_)
          · refine q_iconst (v := 0) hG rfl rfl ?_
            refine q_iret5 hG rfl rfl (by decide) ?_
            exact p0 (fun z => by obtain ⟨z1, z2, z3, z4, z5⟩ := z; omega)
          · refine q_iconst (v := 1) hG rfl rfl ?_
            refine q_goto hG rfl ?_
            refine q_iret5 hG rfl rfl (by decide) ?_
            exact p1 ⟨by omega, by omega, by omega, by omega, by omega⟩
    · refine q_iconst (v := 1) hG rfl rfl ?_
      refine q_goto hG rfl ?_
      refine q_istore hG rfl rfl ?_
      refine q_iload hG rfl rfl ?_
      refine q_if_eq hG rfl ⟨by omega, by omega⟩ (fun q => absurd q (by decide)) (fun _ => ?_)
      refine q_iload_n hG rfl rfl ?_
      refine q_iload hG rfl rfl ?_
      refine q_icmp_lt hG rfl (hx.2.2.2) ⟨by omega, by omega⟩ (fun hc46 => ?_) (fun hc46 => ?_)
      · refine q_iconst (v := 0) hG rfl rfl ?_
        refine q_iret5 hG rfl rfl (by decide) ?_
        exact p0 (fun z => by obtain ⟨z1, z2, z3, z4, z5⟩ := z; omega)
      · refine q_iload_n hG rfl rfl ?_
        refine q_bipush (v := 20) hG rfl rfl ?_
        refine q_icmp_gt hG rfl (hx.2.2.2) ⟨by omega, by omega⟩ (fun hc52 => ?_) (fun hc52 => ?_)
        · refine q_iconst (v := 0) hG rfl rfl ?_
          refine q_iret5 hG rfl rfl (by decide) ?_
          exact p0 (fun z => by obtain ⟨z1, z2, z3, z4, z5⟩ := z; omega)
        · refine q_iload_n hG rfl rfl ?_
          refine q_iload_n hG rfl rfl ?_
          refine q_icmp_eq hG rfl (hx.2.1) (hx.2.2.1) (fun hc57 => ?_) (fun hc57 => ?_)
          · refine q_iconst (v := 0) hG rfl rfl ?_
            refine q_iret5 hG rfl rfl (by decide) ?_
            exact p0 (fun z => by obtain ⟨z1, z2, z3, z4, z5⟩ := z; omega)
          · refine q_iconst (v := 1) hG rfl rfl ?_
            refine q_goto hG rfl ?_
            refine q_iret5 hG rfl rfl (by decide) ?_
            exact p1 ⟨by omega, by omega, by omega, by omega, by omega⟩
  · refine q_iload_n hG rfl rfl ?_
    refine q_bipush (v := 61) hG rfl rfl ?_
    refine q_icmp_eq hG rfl (hx.1) ⟨by omega, by omega⟩ (fun hc9 => ?_) (fun hc9 => ?_)
    · refine q_iconst (v := 1) hG rfl rfl ?_
      refine q_goto hG rfl ?_
      refine q_istore hG rfl rfl ?_
      refine q_iload_n hG rfl rfl ?_
      refine q_bipush (v := 35) hG rfl rfl ?_
      refine q_icmp_ne hG rfl (hx.1) ⟨by omega, by omega⟩ (fun hc28 => ?_) (fun hc28 => ?_)
      · refine q_iconst (v := 0) hG rfl rfl ?_
        refine q_istore hG rfl rfl ?_
        refine q_iload hG rfl rfl ?_
        refine q_if_eq hG rfl ⟨by omega, by omega⟩ (fun q => absurd q (by decide)) (fun _ => ?_)
        refine q_iload_n hG rfl rfl ?_
        refine q_iload hG rfl rfl ?_
        refine q_icmp_lt hG rfl (hx.2.2.2) ⟨by omega, by omega⟩ (fun hc46 => ?_) (fun hc46 => ?_)
        · refine q_iconst (v := 0) hG rfl rfl ?_
          refine q_iret5 hG rfl rfl (by decide) ?_
          exact p0 (fun z => by obtain ⟨z1, z2, z3, z4, z5⟩ := z; omega)
        · refine q_iload_n hG rfl rfl ?_
          refine q_bipush (v := 20) hG rfl rfl ?_
          refine q_icmp_gt hG rfl (hx.2.2.2) ⟨by omega, by omega⟩ (fun hc52 => ?_) (fun hc52 => ?_)
          · refine q_iconst (v := 0) hG rfl rfl ?_
            refine q_iret5 hG rfl rfl (by decide) ?_
            exact p0 (fun z => by obtain ⟨z1, z2, z3, z4, z5⟩ := z; omega)
          · refine q_iload_n hG rfl rfl ?_
            refine q_iload_n hG rfl rfl ?_
            refine q_icmp_eq hG rfl (hx.2.1) (hx.2.2.1) (fun hc57 => ?_) (fun hc57 => ?_)
            · refine q_iconst (v := 0) hG rfl rfl ?_
              refine q_iret5 hG rfl rfl (by decide) ?_
              exact p0 (fun z => by obtain ⟨z1, z2, z3, z4, z5⟩ := z; omega)
            · refine q_iconst (v := 1) hG rfl rfl ?_
              refine q_goto hG rfl ?_
              refine q_iret5 hG rfl rfl (by decide) ?_
              exact p1 ⟨by omega, by omega, by omega, by omega, by omega⟩
      · refine q_iconst (v := 1) hG rfl rfl ?_
        refine q_goto hG rfl ?_
        refine q_istore hG rfl rfl ?_
        refine q_iload hG rfl rfl ?_
        refine q_if_eq hG rfl ⟨by omega, by omega⟩ (fun q => absurd q (by decide)) (fun _ => ?_)
        refine q_iload_n hG rfl rfl ?_
        refine q_iload hG rfl rfl ?_
        refine q_icmp_lt hG rfl (hx.2.2.2) ⟨by omega, by omega⟩ (fun hc46 => ?_) (fun hc46 => ?_)
        · refine q_iconst (v := 0) hG rfl rfl ?_
          refine q_iret5 hG rfl rfl (by decide) ?_
          exact p0 (fun z => by obtain ⟨z1, z2, z3, z4, z5⟩ := z; omega)
        · refine q_iload_n hG rfl rfl ?_
          refine q_bipush (v := 20) hG rfl rfl ?_
          refine q_icmp_gt hG rfl (hx.2.2.2) ⟨by omega, by omega⟩ (fun hc52 => ?_) (fun hc52 => ?_)
          · refine q_iconst (v := 0) hG rfl rfl ?_
            refine q_iret5 hG rfl rfl (by decide) ?_
            exact p0 (fun z => by obtain ⟨z1, z2, z3, z4, z5⟩ := z; omega)
          · refine q_iload_n hG rfl rfl ?_
            refine q_iload_n hG rfl rfl ?_
            refine q_icmp_eq hG rfl (hx.2.1) (hx.2.2.1) (fun hc57 => ?_) (fun hc57 => ?_)
            · refine q_iconst (v := 0) hG rfl rfl ?_
              refine q_iret5 hG rfl rfl (by decide) ?_
              exact p0 (fun z => by obtain ⟨z1, z2, z3, z4, z5⟩ := z; omega)
            · refine q_iconst (v := 1) hG rfl rfl ?_
              refine q_goto hG rfl ?_
              refine q_iret5 hG rfl rfl (by decide) ?_
              exact p1 ⟨by omega, by omega, by omega, by omega, by omega⟩
    · refine q_iload_n hG rfl rfl ?_
      refine q_bipush (v := 35) hG rfl rfl ?_
      refine q_icmp_ne hG rfl (hx.1) ⟨by omega, by omega⟩ (fun hc15 => ?_) (fun hc15 => ?_)
      · refine q_iconst (v := 0) hG rfl rfl ?_
        refine q_istore hG rfl rfl ?_
        refine q_iload_n hG rfl rfl ?_
        refine q_bipush (v := 35) hG rfl rfl ?_
        refine q_icmp_ne hG rfl (hx.1) ⟨by omega, by omega⟩ (fun hc28 => ?_) (fun hc28 => ?_)
        · refine q_iconst (v := 0) hG rfl rfl ?_
          refine q_istore hG rfl rfl ?_
          refine q_iload hG rfl rfl ?_
          refine q_if_eq hG rfl ⟨by omega, by omega⟩ (fun _ => ?_) (fun q => absurd (by decide) q)
          refine q_iconst (v := 0) hG rfl rfl ?_
          refine q_iret5 hG rfl rfl (by decide) ?_
          exact p0 (fun z => by obtain ⟨z1, z2, z3, z4, z5⟩ := z; omega)
        · refine q_iconst (v := 1) hG rfl rfl ?_
          refine q_goto hG rfl ?_
          refine q_istore hG rfl rfl ?_
          refine q_iload hG rfl rfl ?_
          refine q_if_eq hG rfl ⟨by omega, by omega⟩ (fun _ => ?_) (fun q => absurd (by decide) q)
          refine q_iconst (v := 0) hG rfl rfl ?_
          refine q_iret5 hG rfl rfl (by decide) ?_
          exact p0 (fun z => by obtain ⟨z1, z2, z3, z4, z5⟩ := z; omega)
      · refine q_iconst (v := 1) hG rfl rfl ?_
        refine q_goto hG rfl ?_
        refine q_istore hG rfl rfl ?_
        refine q_iload_n hG rfl rfl ?_
        refine q_bipush (v := 35) hG rfl rfl ?_
        refine q_icmp_ne hG rfl (hx.1) ⟨by omega, by omega⟩ (fun hc28 => ?_) (fun hc28 => ?_)
        · refine q_iconst (v := 0) hG rfl rfl ?_
          refine q_istore hG rfl rfl ?_
          refine q_iload hG rfl rfl ?_
          refine q_if_eq hG rfl ⟨by omega, by omega⟩ (fun q => absurd q (by decide)) (fun _ => ?_)
          refine q_iload_n hG rfl rfl ?_
          refine q_iload hG rfl rfl ?_
          refine q_icmp_lt hG rfl (hx.2.2.2) ⟨by omega, by omega⟩ (fun hc46 => ?_) (fun hc46 => ?_)
          · refine q_iconst (v := 0) hG rfl rfl ?_
            refine q_iret5 hG rfl rfl (by decide) ?_
            exact p0 (fun z => by obtain ⟨z1, z2, z3, z4, z5⟩ := z; omega)
          · refine q_iload_n hG rfl rfl ?_
            refine q_bipush (v := 20) hG rfl rfl ?_
            refine q_icmp_gt hG rfl (hx.2.2.2) ⟨by omega, by omega⟩ (fun hc52 => ?_) (fun hc52 => ?_)
            · refine q_iconst (v := 0) hG rfl rfl ?_
              refine q_iret5 hG rfl rfl (by decide) ?_
              exact p0 (fun z => by obtain ⟨z1, z2, z3, z4, z5⟩ := z; omega)
            · refine q_iload_n hG rfl rfl ?_
              refine q_iload_n hG rfl rfl ?_
              refine q_icmp_eq hG rfl (hx.2.1) (hx.2.2.1) (fun hc57 => ?_) (fun hc57 => ?_)
              · refine q_iconst (v := 0) hG rfl rfl ?_
                refine q_iret5 hG rfl rfl (by decide) ?_
                exact p0 (fun z => by obtain ⟨z1, z2, z3, z4, z5⟩ := z; omega)
              · refine q_iconst (v := 1) hG rfl rfl ?_
                refine q_goto hG rfl ?_
                refine q_iret5 hG rfl rfl (by decide) ?_
                exact p1 ⟨by omega, by omega, by omega, by omega, by omega⟩
        · refine q_iconst (v := 1) hG rfl rfl ?_
          refine q_goto hG rfl ?_
          refine q_istore hG rfl rfl ?_
          refine q_iload hG rfl rfl ?_
          refine q_if_eq hG rfl ⟨by omega, by omega⟩ (fun q => absurd q (by decide)) (fun _ => ?_)
          refine q_iload_n hG rfl rfl ?_
          refine q_iload hG rfl rfl ?_
          refine q_icmp_lt hG rfl (hx.2.2.2) ⟨by omega, by omega⟩ (fun hc46 => ?_) (fun hc46 => ?_)
          · refine q_iconst (v := 0) hG rfl rfl ?_
            refine q_iret5 hG rfl rfl (by decide) ?_
            exact p0 (fun z => by obtain ⟨z1, z2, z3, z4, z5⟩ := z; omega)
          · refine q_iload_n hG rfl rfl ?_
            refine q_bipush (v := 20) hG rfl rfl ?_
            refine q_icmp_gt hG rfl (hx.2.2.2) ⟨by omega, by omega⟩ (fun hc52 => ?_) (fun hc52 => ?_)
            · refine q_iconst (v := 0) hG rfl rfl ?_
              refine q_iret5 hG rfl rfl (by decide) ?_
              exact p0 (fun z => by obtain ⟨z1, z2, z3, z4, z5⟩ := z; omega)
            · refine q_iload_n hG rfl rfl ?_
              refine q_iload_n hG rfl rfl ?_
              refine q_icmp_eq hG rfl (hx.2.1) (hx.2.2.1) (fun hc57 => ?_) (fun hc57 => ?_)
              · refine q_iconst (v := 0) hG rfl rfl ?_
                refine q_iret5 hG rfl rfl (by decide) ?_
                exact p0 (fun z => by obtain ⟨z1, z2, z3, z4, z5⟩ := z; omega)
              · refine q_iconst (v := 1) hG rfl rfl ?_
                refine q_goto hG rfl ?_
                refine q_iret5 hG rfl rfl (by decide) ?_
                exact p1 ⟨by omega, by omega, by omega, by omega, by omega⟩
theorem s_X_ckRange {d : Nat} {B : HP} {I : IM} {Post : Out → HP → Prop} {a b : Int} (ha : r32 a) (hb : r32 b) (p1 : rngP a b → Post (.inl none) (wI B I)) (p0 : ¬ rngP a b → Post (.inr 0) (wI (junk B 6) I)) : Sp (d + 3) k_X8_checkRange [.int (i3 (a)), .int (i3 (b))] (wI B I) Post := by
  refine Sp_intro md_X8_checkRange rfl rfl (fun G hG => ?_)
  show G 0 [some (.int (i3 (a))), some (.int (i3 (b)))] [] (wI B I)
  refine q_iload_n hG rfl rfl ?_
  refine q_iload_n hG rfl rfl ?_
  refine q_callS0 hG rfl rfl rfl (s_X_range ha hb (fun hi => ?_) (fun hi => ?_))
  · refine q_if_ne hG rfl ⟨by omega, by omega⟩ (fun _ => ?_) (fun q => absurd (by decide) q)
    refine q_vret hG rfl ?_
    exact p1 hi
  · refine q_if_ne hG rfl ⟨by omega, by omega⟩ (fun q => absurd q (by decide)) (fun _ => ?_)
    refine q_throw hG rfl ?_
    exact p0 hi
theorem s_X_reject {d : Nat} {B : HP} {I : IM} {Post : Out → HP → Prop} (hX : LX B) {r e : Int} (hp : Post (.inl (some (.int (i3 (-1))))) (wI B (st (st I 0 11 r) 0 12 e))) : Sp (d + 1) k_X8_reject [.ref 0, .int (i3 (r)), .int (i3 (e))] (wI B I) Post := by
  refine Sp_intro md_X8_reject rfl rfl (fun G hG => ?_)
  have hX0 := hX
  obtain ⟨x0, x1, x2, x3, x4, x5, x6, x7, x8, x9, x10, x11, x12, x13, x14, x15, x16, x17, x18, x19, x20, x21, x22, x23, x24, x25, x26, x27, x28, x29, x30, x31, x32, x33, x34, x35, x36, x37, x38, x39, x40, x41, x42, x43, x44⟩ := hX
  obtain ⟨d1, d2, d3, d4, hF, hBd, hCo⟩ := x10
  obtain ⟨f1, f2, f3, f4, f5⟩ := hF
  obtain ⟨g1, g2, g3, g4, g5⟩ := hBd
  obtain ⟨c1, c2, c3, c4, c5, c6, c7, c8, c9, c10, c11⟩ := hCo
  obtain ⟨t1, t2, t3, t4, t5⟩ := x12
  show G 0 [some (.ref 0), some (.int (i3 (r))), some (.int (i3 (e)))] [] (wI B I)
  refine q_aload_n hG rfl rfl ?_
  refine q_iload_n hG rfl rfl ?_
  refine q_putI0 hG rfl (by assumption) ?_
  refine q_aload_n hG rfl rfl ?_
  refine q_iload_n hG rfl rfl ?_
  refine q_putI0 hG rfl (by assumption) ?_
  refine q_iconst (v := -1) hG rfl rfl ?_
  refine q_iret0 hG rfl rfl ?_
  exact hp
theorem s_X_ckDoor {d : Nat} {B : HP} {I : IM} {Post : Out → HP → Prop} (hX : LX B) {R : RW} (hR : RepC I 1 R) {q : Int} (hW : WfR q R) (hq : q ≤ 2000000000) {v : Int} (hv : r32 v) (p1 : 0 ≤ v → v < R 0 → Post (.inl none) (wI B I)) (p0 : ¬ (0 ≤ v ∧ v < R 0) → Post (.inr 2) (wI (junk B 6) I)) : Sp (d + 2) k_X8_checkDoor [.ref 0, .int (i3 (v))] (wI B I) Post := by
  refine Sp_intro md_X8_checkDoor rfl rfl (fun G hG => ?_)
  have hX0 := hX
  obtain ⟨x0, x1, x2, x3, x4, x5, x6, x7, x8, x9, x10, x11, x12, x13, x14, x15, x16, x17, x18, x19, x20, x21, x22, x23, x24, x25, x26, x27, x28, x29, x30, x31, x32, x33, x34, x35, x36, x37, x38, x39, x40, x41, x42, x43, x44⟩ := hX
  obtain ⟨d1, d2, d3, d4, hF, hBd, hCo⟩ := x10
  obtain ⟨f1, f2, f3, f4, f5⟩ := hF
  obtain ⟨g1, g2, g3, g4, g5⟩ := hBd
  obtain ⟨c1, c2, c3, c4, c5, c6, c7, c8, c9, c10, c11⟩ := hCo
  obtain ⟨t1, t2, t3, t4, t5⟩ := x12
  have hR0 := hR
  obtain ⟨r0, r1, r2, r3, r4, rd, rc, ry⟩ := hR
  have r1 : I 8 0 = R 1 := r1
  have r2 : I 8 1 = R 2 := r2
  have rd : ∀ k, k < 6 → I 3 k = R (5 + 4 * k) ∧ I 4 k = R (5 + 4 * k + 1) ∧ I 6 k = R (5 + 4 * k + 2) ∧ I 7 k = R (5 + 4 * k + 3) := rd
  have rc : ∀ k : Nat, (k : Int) < R 1 → I 9 k = R (29 + 5 * k) ∧ I 10 k = R (29 + 5 * k + 1) ∧ I 11 k = R (29 + 5 * k + 2) ∧ I 12 k = R (29 + 5 * k + 3) ∧ I 13 k = R (29 + 5 * k + 4) := rc
  have ry : ∀ k, k < 10 → 0 ≤ I 10 k ∧ I 10 k < 65536 := ry
  have hW0 := hW
  obtain ⟨w0, w1, w2, w3, w4, wd, wc⟩ := hW
  show G 0 [some (.ref 0), some (.int (i3 (v)))] [] (wI B I)
  refine q_aload_n hG rfl rfl ?_
  refine q_getR hG rfl (by assumption) (by assumption) ?_
  refine q_iload_n hG rfl rfl ?_
  refine q_callV6 hG rfl rfl rfl (by assumption) (s_D_has hX0.2.2.2.2.2.2.2.2.2.2.1 hv (by rw [r0]; exact w0) (fun ha hb => ?_) (fun ha => ?_))
  · rw [r0] at hb
    refine q_if_ne hG rfl ⟨by omega, by omega⟩ (fun _ => ?_) (fun q => absurd (by decide) q)
    refine q_vret hG rfl ?_
    exact p1 ha hb
  · rw [r0] at ha
    refine q_if_ne hG rfl ⟨by omega, by omega⟩ (fun q => absurd q (by decide)) (fun _ => ?_)
    refine q_throw hG rfl ?_
    exact p0 ha
theorem s_X_ckPos {d : Nat} {B : HP} {I : IM} {Post : Out → HP → Prop} (hX : LX B) {R : RW} (hR : RepC I 1 R) {q : Int} (hW : WfR q R) (hq : q ≤ 2000000000) {v : Int} (hv : r32 v) (p1 : ∀ p : Nat, fst (fun k => R (29 + 5 * k) = v) (R 1).toNat p → Post (.inl (some (.int (i3 (p : Int))))) (wI B I)) (p0 : (∀ k, k < (R 1).toNat → ¬ R (29 + 5 * k) = v) → Post (.inr 3) (wI (junk B 6) I)) : Sp (d + 2) k_X8_checkedPosition [.ref 0, .int (i3 (v))] (wI B I) Post := by
  refine Sp_intro md_X8_checkedPosition rfl rfl (fun G hG => ?_)
  have hX0 := hX
  obtain ⟨x0, x1, x2, x3, x4, x5, x6, x7, x8, x9, x10, x11, x12, x13, x14, x15, x16, x17, x18, x19, x20, x21, x22, x23, x24, x25, x26, x27, x28, x29, x30, x31, x32, x33, x34, x35, x36, x37, x38, x39, x40, x41, x42, x43, x44⟩ := hX
  obtain ⟨d1, d2, d3, d4, hF, hBd, hCo⟩ := x10
  obtain ⟨f1, f2, f3, f4, f5⟩ := hF
  obtain ⟨g1, g2, g3, g4, g5⟩ := hBd
  obtain ⟨c1, c2, c3, c4, c5, c6, c7, c8, c9, c10, c11⟩ := hCo
  obtain ⟨t1, t2, t3, t4, t5⟩ := x12
  have hR0 := hR
  obtain ⟨r0, r1, r2, r3, r4, rd, rc, ry⟩ := hR
  have r1 : I 8 0 = R 1 := r1
  have r2 : I 8 1 = R 2 := r2
  have rd : ∀ k, k < 6 → I 3 k = R (5 + 4 * k) ∧ I 4 k = R (5 + 4 * k + 1) ∧ I 6 k = R (5 + 4 * k + 2) ∧ I 7 k = R (5 + 4 * k + 3) := rd
  have rc : ∀ k : Nat, (k : Int) < R 1 → I 9 k = R (29 + 5 * k) ∧ I 10 k = R (29 + 5 * k + 1) ∧ I 11 k = R (29 + 5 * k + 2) ∧ I 12 k = R (29 + 5 * k + 3) ∧ I 13 k = R (29 + 5 * k + 4) := rc
  have ry : ∀ k, k < 10 → 0 ≤ I 10 k ∧ I 10 k < 65536 := ry
  have hW0 := hW
  obtain ⟨w0, w1, w2, w3, w4, wd, wc⟩ := hW
  have ids : ∀ k : Nat, (k : Int) < I 8 0 → r32 (I 9 k) := fun k hk => by
    rw [r1] at hk
    have e := (rc k hk).1
    have u := (wc k hk).1
    rw [e]
    exact ⟨by omega, by omega⟩
  show G 0 [some (.ref 0), some (.int (i3 (v))), none] [] (wI B I)
  refine q_aload_n hG rfl rfl ?_
  refine q_getR hG rfl (by assumption) (by assumption) ?_
  refine q_getR hG rfl (by assumption) (by assumption) ?_
  refine q_iload_n hG rfl rfl ?_
  refine q_callV6 hG rfl rfl rfl (by assumption) (s_C_pos (c := 8) (I := I) hX0.2.2.2.2.2.2.2.2.2.2.1.2.2.2.2.2.2 (by rw [r1]; exact w1) hv ids (fun p hf => ?_) (fun hf => ?_))
  · refine q_istore_n hG rfl rfl ?_
    refine q_iload_n hG rfl rfl ?_
    refine q_iconst (v := -1) hG rfl rfl ?_
    refine q_icmp_ne hG rfl (by first | exact ⟨by omega, by omega⟩ | exact ⟨by omega, by have z := hf.1; omega⟩) ⟨by omega, by omega⟩ (fun hc14 => ?_) (fun hc14 => ?_)
    · refine q_iload_n hG rfl rfl ?_
      refine q_iret0 hG rfl rfl ?_
      refine p1 p ?_
      rw [r1] at hf
      exact fst_c (fun k hk => by have e := (rc k (by omega)).1; show I 9 k = v ↔ R (29 + 5 * k) = v; rw [e]) hf
    · refine q_throw hG rfl ?_
      first
      | omega
      | refine p0 (fun k hk => ?_)
        have e := (rc k (by omega)).1
        rw [← e]
        exact hf k (by rw [r1]; exact hk)
  · refine q_istore_n hG rfl rfl ?_
    refine q_iload_n hG rfl rfl ?_
    refine q_iconst (v := -1) hG rfl rfl ?_
    refine q_icmp_ne hG rfl (by first | exact ⟨by omega, by omega⟩ | exact ⟨by omega, by have z := hf.1; omega⟩) ⟨by omega, by omega⟩ (fun q => absurd q (by decide)) (fun _ => ?_)
    refine q_throw hG rfl ?_
    first
    | omega
    | refine p0 (fun k hk => ?_)
      have e := (rc k (by omega)).1
      rw [← e]
      exact hf k (by rw [r1]; exact hk)
theorem addR_k (R : RW) (lo hi : Int) (k : Nat) : addR R lo hi (5 + 4 * k) = upf (fun k => R (5 + 4 * k)) (R 0).toNat lo k ∧ addR R lo hi (5 + 4 * k + 1) = upf (fun k => R (5 + 4 * k + 1)) (R 0).toNat hi k ∧ addR R lo hi (5 + 4 * k + 2) = upf (fun k => R (5 + 4 * k + 2)) (R 0).toNat lo k ∧ addR R lo hi (5 + 4 * k + 3) = upf (fun k => R (5 + 4 * k + 3)) (R 0).toNat hi k := by
  unfold addR upf
  refine ⟨?_, ?_, ?_, ?_⟩ <;> (repeat' split) <;> first | rfl | omega
theorem addR_o (R : RW) (lo hi : Int) {j : Nat} (hj : 0 < j ∧ j < 5 ∨ 29 ≤ j) (h6 : 0 ≤ R 0 ∧ R 0 < 6) : addR R lo hi j = R j := by
  unfold addR
  rw [if_neg (by omega), if_neg (by omega), if_neg (by omega), if_neg (by omega), if_neg (by omega)]
theorem frm_k (R : RW) (d : Nat) (lo hi : Int) (k : Nat) (hk : k < 6) : frmR R d lo hi (5 + 4 * k) = upf (fun k => R (5 + 4 * k)) d lo k ∧ frmR R d lo hi (5 + 4 * k + 1) = upf (fun k => R (5 + 4 * k + 1)) d hi k ∧ frmR R d lo hi (5 + 4 * k + 2) = upf (fun k => R (5 + 4 * k)) d lo k ∧ frmR R d lo hi (5 + 4 * k + 3) = upf (fun k => R (5 + 4 * k + 1)) d hi k := by
  unfold frmR
  obtain ⟨e1, e2, e3, e4⟩ := openR_k (fun j => if j = 5 + 4 * d then lo else if j = 5 + 4 * d + 1 then hi else R j) k hk
  rw [e1, e2, e3, e4]
  unfold upf
  refine ⟨?_, ?_, ?_, ?_⟩ <;> (repeat' split) <;> first | rfl | omega
theorem frm_o (R : RW) (d : Nat) (lo hi : Int) (hd : d < 6) {j : Nat} (hj : j < 5 ∨ 29 ≤ j) : frmR R d lo hi j = R j := by
  unfold frmR
  rw [openR_o _ hj, if_neg (by omega), if_neg (by omega)]
theorem nar_k (R : RW) (d : Nat) (lo hi : Int) (k : Nat) : narR R d lo hi (5 + 4 * k) = R (5 + 4 * k) ∧ narR R d lo hi (5 + 4 * k + 1) = R (5 + 4 * k + 1) ∧ narR R d lo hi (5 + 4 * k + 2) = upf (fun k => R (5 + 4 * k + 2)) d lo k ∧ narR R d lo hi (5 + 4 * k + 3) = upf (fun k => R (5 + 4 * k + 3)) d hi k := by
  unfold narR upf
  refine ⟨?_, ?_, ?_, ?_⟩ <;> (repeat' split) <;> first | rfl | omega
theorem nar_o (R : RW) (d : Nat) (lo hi : Int) (hd : d < 6) {j : Nat} (hj : j < 5 ∨ 29 ≤ j) : narR R d lo hi j = R j := by
  unfold narR
  rw [if_neg (by omega), if_neg (by omega)]
theorem bnd_c (R : RW) (kd f s g : Int) (k : Nat) : bndR R kd f s g (29 + 5 * k) = upf (fun k => R (29 + 5 * k)) (R 1).toNat (R 2) k ∧ bndR R kd f s g (29 + 5 * k + 1) = upf (fun k => R (29 + 5 * k + 1)) (R 1).toNat kd k ∧ bndR R kd f s g (29 + 5 * k + 2) = upf (fun k => R (29 + 5 * k + 2)) (R 1).toNat f k ∧ bndR R kd f s g (29 + 5 * k + 3) = upf (fun k => R (29 + 5 * k + 3)) (R 1).toNat s k ∧ bndR R kd f s g (29 + 5 * k + 4) = upf (fun k => R (29 + 5 * k + 4)) (R 1).toNat g k := by
  unfold bndR upf
  refine ⟨?_, ?_, ?_, ?_, ?_⟩ <;> (repeat' split) <;> first | rfl | omega
theorem bnd_o (R : RW) (kd f s g : Int) {j : Nat} (hj : j = 0 ∨ 3 ≤ j ∧ j < 29) : bndR R kd f s g j = R j := by
  unfold bndR
  rw [if_neg (by omega), if_neg (by omega), if_neg (by omega), if_neg (by omega), if_neg (by omega), if_neg (by omega), if_neg (by omega)]
theorem drp_c (R : RW) (p : Nat) (k : Nat) (w : Nat) (hw : w < 5) (hk : (k : Int) < R 1 - 1) : drpR R p (29 + 5 * k + w) = if p ≤ k then R (29 + 5 * (k + 1) + w) else R (29 + 5 * k + w) := by
  unfold drpR
  rw [openR_o _ (by omega), if_neg (by omega)]
  by_cases h : p ≤ k
  · rw [if_pos (by omega), if_pos h]
    congr 1 <;> omega
  · rw [if_neg (by omega), if_neg (by omega), if_neg h]
theorem drp_o (R : RW) (p : Nat) {j : Nat} (hj : j = 0 ∨ 2 ≤ j ∧ j < 5) (h1 : 0 < R 1) : drpR R p j = R j := by
  unfold drpR
  rw [openR_o _ (by omega), if_neg (by omega), if_neg (by omega), if_neg (by omega)]
theorem drp_k (R : RW) (p : Nat) (k : Nat) (hk : k < 6) (h1 : 0 < R 1) : drpR R p (5 + 4 * k) = R (5 + 4 * k) ∧ drpR R p (5 + 4 * k + 1) = R (5 + 4 * k + 1) ∧ drpR R p (5 + 4 * k + 2) = R (5 + 4 * k) ∧ drpR R p (5 + 4 * k + 3) = R (5 + 4 * k + 1) := by
  unfold drpR
  obtain ⟨e1, e2, e3, e4⟩ := openR_k (fun j => if j = 1 then R 1 - 1 else if 29 + 5 * p ≤ j ∧ j < 29 + 5 * ((R 1).toNat - 1) then R (j + 5) else if 29 + 5 * ((R 1).toNat - 1) ≤ j ∧ j < 29 + 5 * (R 1).toNat then 0 else R j) k hk
  rw [e1, e2, e3, e4]
  refine ⟨?_, ?_, ?_, ?_⟩ <;> rw [if_neg (by omega), if_neg (by omega), if_neg (by omega)]
