/-! the reference: lowest heights, orders, sums -/
theorem s_R_lowestHeight {d : Nat} {B : HP} {I : IM} {Post : Out → HP → Prop} {m : Nat} (hm : oM B m) {R : RW} {q : Int} (hR : RepM I m 0 R) (hW : WfR q R) (hq : q ≤ 2000000000) {x : Int} (hv : r32 x) (pE : ¬ (0 ≤ x ∧ x < R 0) → Post (.inl (some (.int (i3 0)))) (wI B (st I m 0 1))) (p1 : 0 ≤ x ∧ x < R 0 → (stR2 R 0).1 = none → ∀ J : IM, RepM J m 0 R → J m 0 = 0 → mfz I J m → Post (.inl (some (.int (i3 ((stR2 R 0).2.1.1 x.toNat))))) (wI B J)) (p2 : 0 ≤ x ∧ x < R 0 → ∀ p : Nat, (stR2 R 0).1 = some p → ∀ J : IM, RepM J m 0 R → J m 0 = 2 → mfz I J m → Post (.inl (some (.int (i3 0)))) (wI B J)) : Sp (d + 8) k_X9_lowestHeight [.ref m, .int (i3 (x))] (wI B I) Post := by
  refine Sp_intro md_X9_lowestHeight rfl rfl (fun G hG => ?_)
  have hm0 := hm
  obtain ⟨n1, n2, n3, n4, n5, n6, n7, n8, n9, n10, n11⟩ := hm
  have hR0 : ∀ j, j < 79 → I (m + 1) j = R j := hR.at
  have hRs : ∀ z : Int, ∀ j, j < 79 → st I m 0 z (m + 1) j = R j := fun z j hj => by rw [st_row _ _ (by omega)]; exact hR0 j hj
  have hW0 := hW
  obtain ⟨w0, w1, w2, w3, w4, wd, wc⟩ := hW
  have hdb : ∀ k, k < 6 → (0 ≤ R (5 + 4 * k + 2) ∧ R (5 + 4 * k + 2) ≤ 40) ∧ (0 ≤ R (5 + 4 * k + 3) ∧ R (5 + 4 * k + 3) ≤ 40) ∧ R (5 + 4 * k + 2) ≤ R (5 + 4 * k + 3) := fun k hk => by have u := (wd k hk).1; omega
  show G 0 [some (.ref m), some (.int (i3 (x))), none, none] [] (wI B I)
  refine q_aload_n hG rfl rfl ?_
  refine q_aload_n hG rfl rfl ?_
  refine q_iload_n hG rfl rfl ?_
  refine q_callV6 hG rfl rfl rfl (by assumption) (s_R_isDoor hm0 hv (by rw [hR0 0 (by omega)]; exact w0) (fun hd => ?_) (fun hd => ?_))
  · rw [hR0 0 (by omega)] at hd
    refine q_callV6 hG rfl rfl rfl (by assumption) (s_R_fine1 hm0 ?_)
    refine q_if_ne hG rfl ⟨by omega, by omega⟩ (fun _ => ?_) (fun q => absurd (by decide) q)
    refine q_aload_n hG rfl rfl ?_
    refine q_iconst (v := 0) hG rfl rfl ?_
    refine q_bipush (v := 11) hG rfl rfl ?_
    refine q_callV6 hG rfl rfl rfl (by assumption) (s_R_copies (a := 0) (b := 11) (I := st I m 0 0) hm0 (by decide) (by decide) (fun J1 a1 a2 a3 => ?_))
    have hT : ∀ j, j < 79 → J1 (m + 1) (869 + j) = R j := fun j hj => by
      have := a1 j hj
      rw [show 79 * 11 + j = 869 + j by omega, show 79 * 0 + j = j by omega] at this
      rw [this]
      exact hRs 0 j hj
    have hK : ∀ j, j < 79 → st J1 m 10 0 (m + 1) j = R j := fun j hj => by rw [st_row _ _ (by omega), a2 j (by omega)]; exact hRs 0 j hj
    obtain ⟨hag, hwf, hok, hn0, hcn⟩ := ref_trial hK hW0 hq (st_same _ _ _ _)
    refine q_aload_n hG rfl rfl ?_
    refine q_iconst (v := 0) hG rfl rfl ?_
    refine q_putI0 hG rfl (by assumption) ?_
    refine q_aload_n hG rfl rfl ?_
    refine q_iconst (v := 1) hG rfl rfl ?_
    refine q_callV6 hG rfl rfl rfl (by assumption) (s_R_settles (wa := 0) hm0 (Or.inl ⟨rfl, rfl⟩) hwf hok (by rw [st_same]; omega) (fun J2 e1 e2 hf => ?_) (fun J2 p e1 e1b e11 hf => ?_))
    · rw [hn0] at e1 e2
      obtain ⟨aq, ag, at2⟩ := stM_ag (wa := 0) hcn 1000 _ _ 0 hag
      rw [hn0, at2]
      have pb : 0 ≤ (stM (cnR R) 0 (R 1).toNat 1000 (ptR R) 0).2.2 ∧ (stM (cnR R) 0 (R 1).toNat 1000 (ptR R) 0).2.2 ≤ 241 := st_bd hW0 (wa := 0) (by rw [← aq]; exact e1)
      refine q_istore_n hG rfl rfl ?_
      refine q_aload_n hG rfl rfl ?_
      refine q_iload_n hG rfl rfl ?_
      refine q_iconst (v := 2) hG rfl rfl ?_
      refine q_callV6 hG rfl rfl rfl (by assumption) (s_R_d (w := 2) hm0 ⟨by omega, by omega⟩ (by decide) ?_)
      refine q_istore_n hG rfl rfl ?_
      refine q_aload_n hG rfl rfl ?_
      refine q_bipush (v := 11) hG rfl rfl ?_
      refine q_iconst (v := 0) hG rfl rfl ?_
      refine q_callV6 hG rfl rfl rfl (by assumption) (s_R_copies (a := 11) (b := 0) hm0 (by decide) (by decide) (fun J3 b1 b2 b3 => ?_))
      have hE : ∀ z : Int, RepM (st J3 m 0 z) m 0 R := fun z => RepM.of (fun j hj => by
        have := b1 j hj
        rw [show 79 * 11 + j = 869 + j by omega, show 79 * 0 + j = j by omega] at this
        rw [st_row _ _ (by omega), this, hf.2.2 _ (by omega), st_row _ _ (by omega)]
        exact hT j hj)
      have hz : ∀ z : Int, mfz I (st J3 m 0 z) m := fun z => ((((((mfz.t I m 0).trans (cp_mfr (Or.inr rfl) a2 a3).z).trans (mfr.fld (v := 0) (k := 10) (by omega)).z).trans hf.m.z).trans (cp_mfr (Or.inl rfl) b2 b3).z).trans (mfz.t _ _ _))
      refine q_aload_n hG rfl rfl ?_
      refine q_iload_n hG rfl rfl ?_
      refine q_if_ge hG rfl ⟨by omega, by omega⟩ (fun hc48 => ?_) (fun hc48 => absurd (by omega) hc48)
      refine q_iconst (v := 0) hG rfl rfl ?_
      refine q_putI0 hG rfl (by assumption) ?_
      refine q_iload_n hG rfl rfl ?_
      refine q_if_ge hG rfl ⟨by omega, by omega⟩ (fun hc60 => ?_) (fun hc60 => absurd (by omega) hc60)
      refine q_iload_n hG rfl rfl ?_
      refine q_iret0 hG rfl rfl ?_
      first
      | exact pE hd
      | exact p2 hd p (by rw [← aq]; exact e1) _ (hE 2) (st_same _ _ _ _) (hz 2)
      | have ev : dR J2 m x.toNat 2 = (stR2 R 0).2.1.1 x.toNat := (rfS_1 e2 _).trans (ag.1 _ (by omega)).1
        rw [ev]
        exact p1 hd (by rw [← aq]; exact e1) _ (hE 0) (st_same _ _ _ _) (hz 0)
    · rw [hn0] at e1 e1b
      obtain ⟨aq, ag, at2⟩ := stM_ag (wa := 0) hcn 1000 _ _ 0 hag
      refine q_istore_n hG rfl rfl ?_
      refine q_aload_n hG rfl rfl ?_
      refine q_iload_n hG rfl rfl ?_
      refine q_iconst (v := 2) hG rfl rfl ?_
      refine q_callV6 hG rfl rfl rfl (by assumption) (s_R_d (w := 2) hm0 ⟨by omega, by omega⟩ (by decide) ?_)
      refine q_istore_n hG rfl rfl ?_
      refine q_aload_n hG rfl rfl ?_
      refine q_bipush (v := 11) hG rfl rfl ?_
      refine q_iconst (v := 0) hG rfl rfl ?_
      refine q_callV6 hG rfl rfl rfl (by assumption) (s_R_copies (a := 11) (b := 0) hm0 (by decide) (by decide) (fun J3 b1 b2 b3 => ?_))
      have hE : ∀ z : Int, RepM (st J3 m 0 z) m 0 R := fun z => RepM.of (fun j hj => by
        have := b1 j hj
        rw [show 79 * 11 + j = 869 + j by omega, show 79 * 0 + j = j by omega] at this
        rw [st_row _ _ (by omega), this, hf.2.2 _ (by omega), st_row _ _ (by omega)]
        exact hT j hj)
      have hz : ∀ z : Int, mfz I (st J3 m 0 z) m := fun z => ((((((mfz.t I m 0).trans (cp_mfr (Or.inr rfl) a2 a3).z).trans (mfr.fld (v := 0) (k := 10) (by omega)).z).trans hf.m.z).trans (cp_mfr (Or.inl rfl) b2 b3).z).trans (mfz.t _ _ _))
      refine q_aload_n hG rfl rfl ?_
      refine q_iload_n hG rfl rfl ?_
      refine q_if_ge hG rfl ⟨by omega, by omega⟩ (fun q => absurd q (by decide)) (fun _ => ?_)
      refine q_iconst (v := 2) hG rfl rfl ?_
      refine q_goto hG rfl ?_
      refine q_putI0 hG rfl (by assumption) ?_
      refine q_iload_n hG rfl rfl ?_
      refine q_if_ge hG rfl ⟨by omega, by omega⟩ (fun q => absurd q (by decide)) (fun _ => ?_)
      refine q_iconst (v := 0) hG rfl rfl ?_
      refine q_goto hG rfl ?_
      refine q_iret0 hG rfl rfl ?_
      first
      | exact pE hd
      | exact p2 hd p (by rw [← aq]; exact e1) _ (hE 2) (st_same _ _ _ _) (hz 2)
      | have ev : dR J2 m x.toNat 2 = (stR2 R 0).2.1.1 x.toNat := (rfS_1 e2 _).trans (ag.1 _ (by omega)).1
        rw [ev]
        exact p1 hd (by rw [← aq]; exact e1) _ (hE 0) (st_same _ _ _ _) (hz 0)
  · rw [hR0 0 (by omega)] at hd
    refine q_callV6 hG rfl rfl rfl (by assumption) (s_R_fine0 hm0 ?_)
    refine q_if_ne hG rfl ⟨by omega, by omega⟩ (fun q => absurd q (by decide)) (fun _ => ?_)
    refine q_iconst (v := 0) hG rfl rfl ?_
    refine q_iret0 hG rfl rfl ?_
    first
    | exact pE hd
    | exact p2 hd p (by rw [← aq]; exact e1) _ (hE 2) (st_same _ _ _ _) (hz 2)
    | have ev : dR J2 m x.toNat 2 = (stR2 R 0).2.1.1 x.toNat := (rfS_1 e2 _).trans (ag.1 _ (by omega)).1
      rw [ev]
      exact p1 hd (by rw [← aq]; exact e1) _ (hE 0) (st_same _ _ _ _) (hz 0)
theorem s_R_lowestByPaths {d : Nat} {B : HP} {I : IM} {Post : Out → HP → Prop} {m : Nat} (hm : oM B m) {R : RW} {q : Int} (hR : RepM I m 0 R) (hW : WfR q R) (hq : q ≤ 2000000000) {x : Int} (hv : r32 x) (pE : ¬ (0 ≤ x ∧ x < R 0) → Post (.inl (some (.int (i3 0)))) (wI B (st I m 0 1))) (p1 : 0 ≤ x ∧ x < R 0 → (stR2 R 0).1 = none → ∀ J : IM, RepM J m 0 R → J m 0 = 0 → mfz I J m → Post (.inl (some (.int (i3 ((stR2 R 0).2.1.1 x.toNat))))) (wI B J)) (p2 : 0 ≤ x ∧ x < R 0 → ∀ p : Nat, (stR2 R 0).1 = some p → ∀ J : IM, RepM J m 0 R → J m 0 = 2 → mfz I J m → Post (.inl (some (.int (i3 0)))) (wI B J)) : Sp (d + 9) k_X9_lowestHeightByPaths [.ref m, .int (i3 (x))] (wI B I) Post := by
  refine Sp_intro md_X9_lowestHeightByPaths rfl rfl (fun G hG => ?_)
  have hm0 := hm
  obtain ⟨n1, n2, n3, n4, n5, n6, n7, n8, n9, n10, n11⟩ := hm
  have hR0 : ∀ j, j < 79 → I (m + 1) j = R j := hR.at
  have hRs : ∀ z : Int, ∀ j, j < 79 → st I m 0 z (m + 1) j = R j := fun z j hj => by rw [st_row _ _ (by omega)]; exact hR0 j hj
  have hW0 := hW
  obtain ⟨w0, w1, w2, w3, w4, wd, wc⟩ := hW
  have hdb : ∀ k, k < 6 → (0 ≤ R (5 + 4 * k + 2) ∧ R (5 + 4 * k + 2) ≤ 40) ∧ (0 ≤ R (5 + 4 * k + 3) ∧ R (5 + 4 * k + 3) ≤ 40) ∧ R (5 + 4 * k + 2) ≤ R (5 + 4 * k + 3) := fun k hk => by have u := (wd k hk).1; omega
  show G 0 [some (.ref m), some (.int (i3 (x)))] [] (wI B I)
  refine q_aload_n hG rfl rfl ?_
  refine q_iload_n hG rfl rfl ?_
  refine q_callV6 hG rfl rfl rfl (by assumption) (s_R_lowestHeight hm0 hR hW0 hq hv (fun hd => ?_) (fun hd h1 J q1 q2 q3 => ?_) (fun hd p h1 J q1 q2 q3 => ?_))
  · refine q_iret0 hG rfl rfl ?_
    first
    | exact pE hd
    | exact p1 hd h1 J q1 q2 q3
    | exact p2 hd p h1 J q1 q2 q3
  · refine q_iret0 hG rfl rfl ?_
    first
    | exact pE hd
    | exact p1 hd h1 J q1 q2 q3
    | exact p2 hd p h1 J q1 q2 q3
  · refine q_iret0 hG rfl rfl ?_
    first
    | exact pE hd
    | exact p1 hd h1 J q1 q2 q3
    | exact p2 hd p h1 J q1 q2 q3
theorem tkR_bd (R : RW) (x : Int) (h : 0 ≤ R 1 ∧ R 1 ≤ 10) : 0 ≤ tkR R x ∧ tkR R x ≤ 10 := by
  have := sm_bd (f := fun k => if R (29 + 5 * k + 2) = x ∨ R (29 + 5 * k + 3) = x then 1 else 0) (a := 0) (b := 1) (R 1).toNat (fun z _ => by split <;> omega)
  unfold tkR
  omega
/-- heaps that differ in what was thrown alone -/
def sth (I J : IM) (m : Nat) : Prop := (∀ a, a ≠ m → J a = I a) ∧ ∀ k, k ≠ 0 → J m k = I m k
theorem sth.refl (I : IM) (m : Nat) : sth I I m := ⟨fun _ _ => rfl, fun _ _ => rfl⟩
theorem sth.t {I J : IM} {m : Nat} (h : sth I J m) (v : Int) : sth I (st J m 0 v) m := ⟨fun a ha => by rw [st_row _ _ ha]; exact h.1 a ha, fun k hk => by rw [st_ne _ _ (by omega)]; exact h.2 k hk⟩
theorem sth.z {I J : IM} {m : Nat} (h : sth I J m) : mfz I J m := ⟨fun a p _ => h.1 a p, fun k o p q r s t => h.2 k o, fun j _ => by rw [h.1 (m + 1) (by omega)]⟩
theorem sth.r {I J : IM} {m : Nat} {R : RW} (h : sth I J m) (hR : RepM I m 0 R) : RepM J m 0 R := hR.row (fun j _ _ => by rw [h.1 (m + 1) (by omega)])
theorem s_R_isNarrower {d : Nat} {B : HP} {I : IM} {Post : Out → HP → Prop} {m : Nat} (hm : oM B m) {R : RW} {q : Int} (hR : RepM I m 0 R) (hW : WfR q R) (hq : q ≤ 2000000000) {o x : Nat} (ho : o < 6) (hx : x < 6) (p1 : ahR R o x → Post (.inl (some (.int (i3 1)))) (wI B I)) (p0 : ¬ ahR R o x → Post (.inl (some (.int (i3 0)))) (wI B I)) : Sp (d + 3) k_X9_isNarrower [.ref m, .int (i3 ((o : Int))), .int (i3 ((x : Int)))] (wI B I) Post := by
  refine Sp_intro md_X9_isNarrower rfl rfl (fun G hG => ?_)
  have hm0 := hm
  obtain ⟨n1, n2, n3, n4, n5, n6, n7, n8, n9, n10, n11⟩ := hm
  have hR0 : ∀ j, j < 79 → I (m + 1) j = R j := hR.at
  have hRs : ∀ z : Int, ∀ j, j < 79 → st I m 0 z (m + 1) j = R j := fun z j hj => by rw [st_row _ _ (by omega)]; exact hR0 j hj
  have hW0 := hW
  obtain ⟨w0, w1, w2, w3, w4, wd, wc⟩ := hW
  have hdb : ∀ k, k < 6 → (0 ≤ R (5 + 4 * k + 2) ∧ R (5 + 4 * k + 2) ≤ 40) ∧ (0 ≤ R (5 + 4 * k + 3) ∧ R (5 + 4 * k + 3) ≤ 40) ∧ R (5 + 4 * k + 2) ≤ R (5 + 4 * k + 3) := fun k hk => by have u := (wd k hk).1; omega
  have tkc : ∀ k : Nat, (k : Int) < I (m + 1) 1 → r32 (cR I m k 2) ∧ r32 (cR I m k 3) := fun k hk => by
    rw [hR0 1 (by omega)] at hk
    rw [show cR I m k 2 = R (29 + 5 * k + 2) from hR0 _ (by omega), show cR I m k 3 = R (29 + 5 * k + 3) from hR0 _ (by omega)]
    obtain ⟨-, -, v3, v4, -⟩ := wc k hk
    exact ⟨⟨by omega, by omega⟩, ⟨by omega, by omega⟩⟩
  have tke : ∀ x : Int, sm (fun k => if cR I m k 2 = x ∨ cR I m k 3 = x then 1 else 0) (I (m + 1) 1).toNat = tkR R x := fun x => by
    rw [hR0 1 (by omega)]
    unfold tkR
    refine sm_congr _ (fun k hk => ?_)
    rw [show cR I m k 2 = R (29 + 5 * k + 2) from hR0 _ (by omega), show cR I m k 3 = R (29 + 5 * k + 3) from hR0 _ (by omega)]
  have bo := tkR_bd R o w1
  have bx := tkR_bd R x w1
  have dO := hdb o ho
  have dX := hdb x hx
  have eo : wdR R o = R (5 + 4 * o + 3) - R (5 + 4 * o + 2) + 1 := rfl
  have ex : wdR R x = R (5 + 4 * x + 3) - R (5 + 4 * x + 2) + 1 := rfl
  show G 0 [some (.ref m), some (.int (i3 ((o : Int)))), some (.int (i3 ((x : Int)))), none, none] [] (wI B I)
  refine q_aload_n hG rfl rfl ?_
  refine q_iload_n hG rfl rfl ?_
  refine q_callV6 hG rfl rfl rfl (by assumption) (s_R_width hm0 ⟨by omega, by omega⟩ ?_)
  rw [show dR I m (o : Int).toNat 3 - dR I m (o : Int).toNat 2 + 1 = wdR R o from by unfold dR; rw [Int.toNat_natCast, hR0 _ (by omega), hR0 _ (by omega)]; rfl]
  refine q_aload_n hG rfl rfl ?_
  refine q_iload_n hG rfl rfl ?_
  refine q_callV6 hG rfl rfl rfl (by assumption) (s_R_width hm0 ⟨by omega, by omega⟩ ?_)
  rw [show dR I m (x : Int).toNat 3 - dR I m (x : Int).toNat 2 + 1 = wdR R x from by unfold dR; rw [Int.toNat_natCast, hR0 _ (by omega), hR0 _ (by omega)]; rfl]
  refine q_isub hG rfl ?_
  refine q_istore_n hG rfl rfl ?_
  refine q_aload_n hG rfl rfl ?_
  refine q_iload_n hG rfl rfl ?_
  refine q_callV6 hG rfl rfl rfl (by assumption) (s_R_takes hm0 ⟨by omega, by omega⟩ (by rw [hR0 1 (by omega)]; exact w1) tkc ?_)
  rw [tke]
  refine q_aload_n hG rfl rfl ?_
  refine q_iload_n hG rfl rfl ?_
  refine q_callV6 hG rfl rfl rfl (by assumption) (s_R_takes hm0 ⟨by omega, by omega⟩ (by rw [hR0 1 (by omega)]; exact w1) tkc ?_)
  rw [tke]
  refine q_isub hG rfl ?_
  refine q_istore hG rfl rfl ?_
  refine q_iload_n hG rfl rfl ?_
  refine q_if_lt hG rfl ⟨by omega, by omega⟩ (fun hc26 => ?_) (fun hc26 => ?_)
  · refine q_iconst (v := 1) hG rfl rfl ?_
    refine q_goto hG rfl ?_
    refine q_iret5 hG rfl rfl (by decide) ?_
    exact p1 (by unfold ahR; omega)
  · refine q_iload_n hG rfl rfl ?_
    refine q_if_ne hG rfl ⟨by omega, by omega⟩ (fun hc30 => ?_) (fun hc30 => ?_)
    · refine q_iconst (v := 0) hG rfl rfl ?_
      refine q_iret5 hG rfl rfl (by decide) ?_
      exact p0 (by unfold ahR; omega)
    · refine q_iload hG rfl rfl ?_
      refine q_if_gt hG rfl ⟨by omega, by omega⟩ (fun hc35 => ?_) (fun hc35 => ?_)
      · refine q_iconst (v := 1) hG rfl rfl ?_
        refine q_goto hG rfl ?_
        refine q_iret5 hG rfl rfl (by decide) ?_
        exact p1 (by unfold ahR; omega)
      · refine q_iload hG rfl rfl ?_
        refine q_if_ne hG rfl ⟨by omega, by omega⟩ (fun hc40 => ?_) (fun hc40 => ?_)
        · refine q_iconst (v := 0) hG rfl rfl ?_
          refine q_iret5 hG rfl rfl (by decide) ?_
          exact p0 (by unfold ahR; omega)
        · refine q_iload_n hG rfl rfl ?_
          refine q_iload_n hG rfl rfl ?_
          refine q_icmp_ge hG rfl ⟨by omega, by omega⟩ ⟨by omega, by omega⟩ (fun hc45 => ?_) (fun hc45 => ?_)
          · refine q_iconst (v := 0) hG rfl rfl ?_
            refine q_iret5 hG rfl rfl (by decide) ?_
            exact p0 (by unfold ahR; omega)
          · refine q_iconst (v := 1) hG rfl rfl ?_
            refine q_goto hG rfl ?_
            refine q_iret5 hG rfl rfl (by decide) ?_
            exact p1 (by unfold ahR; omega)
theorem s_R_dwCount {d : Nat} {B : HP} {I : IM} {Post : Out → HP → Prop} {m : Nat} (hm : oM B m) {R : RW} {q : Int} (hR : RepM I m 0 R) (hW : WfR q R) (hq : q ≤ 2000000000) {x : Int} (hv : r32 x) (p1 : ∀ p : Nat, fst (fun q => dwR R q = x) (R 0).toNat p → ∀ J : IM, sth I J m → J m 0 = 0 → Post (.inl (some (.int (i3 (p : Int))))) (wI B J)) (pE : (∀ q, q < (R 0).toNat → ¬ dwR R q = x) → ∀ J : IM, sth I J m → J m 0 = 1 → Post (.inl (some (.int (i3 0)))) (wI B J)) : Sp (d + 5) k_X9_doorByWidth [.ref m, .int (i3 (x))] (wI B I) Post := by
  refine Sp_intro md_X9_doorByWidth rfl rfl (fun G hG => ?_)
  have hm0 := hm
  obtain ⟨n1, n2, n3, n4, n5, n6, n7, n8, n9, n10, n11⟩ := hm
  have hR0 : ∀ j, j < 79 → I (m + 1) j = R j := hR.at
  have hRs : ∀ z : Int, ∀ j, j < 79 → st I m 0 z (m + 1) j = R j := fun z j hj => by rw [st_row _ _ (by omega)]; exact hR0 j hj
  have hW0 := hW
  obtain ⟨w0, w1, w2, w3, w4, wd, wc⟩ := hW
  have hdb : ∀ k, k < 6 → (0 ≤ R (5 + 4 * k + 2) ∧ R (5 + 4 * k + 2) ≤ 40) ∧ (0 ≤ R (5 + 4 * k + 3) ∧ R (5 + 4 * k + 3) ≤ 40) ∧ R (5 + 4 * k + 2) ≤ R (5 + 4 * k + 3) := fun k hk => by have u := (wd k hk).1; omega
  have lq : ∀ (mz : Nat) (k : Nat) (o : Nat) (J : IM), ((R 0).toNat - k) * 10 + ((R 0).toNat - o) = mz → k < (R 0).toNat → o ≤ (R 0).toNat → sth I J m → (∀ z, z < k → ¬ dwR R z = x) → G 17 [some (.ref m), some (.int (i3 x)), some (.int (i3 (k : Int))), some (.int (i3 (sm (fun o => if ahR R o k then 1 else 0) o))), some (.int (i3 (o : Int)))] [] (wI B J) := by
    intro mz
    induction mz using Nat.strongRecOn with
    | ind mz ih =>
      intro k o J hme hk ho hs hq0
      have hRJ := hs.r hR
      have hJ0 : ∀ j, j < 79 → J (m + 1) j = R j := hRJ.at
      have bdk := sm_bd (f := fun o => if ahR R o k then 1 else 0) (a := 0) (b := 1) (R 0).toNat (fun z _ => by split <;> omega)
      refine q_iload hG rfl rfl ?_
      refine q_aload_n hG rfl rfl ?_
      refine q_getR hG rfl (by assumption) (by assumption) ?_
      refine q_iconst (v := 0) hG rfl rfl ?_
      refine q_ialdv (v := R 0) hG rfl (by assumption) ⟨by omega, by omega, by omega⟩ (hJ0 0 (by omega)) ?_
      refine q_icmp_ge hG rfl ⟨by omega, by omega⟩ ⟨by omega, by omega⟩ (fun hc25 => ?_) (fun hc25 => ?_)
      · refine q_aload_n hG rfl rfl ?_
        refine q_iload_n hG rfl rfl ?_
        refine q_iload_n hG rfl rfl ?_
        have eo : o = (R 0).toNat := by omega
        subst eo
        have edw : sm (fun o => if ahR R o k then 1 else 0) (R 0).toNat = dwR R k := rfl
        refine q_icmp_ne hG rfl ⟨by omega, by omega⟩ (hv) (fun hc55 => ?_) (fun hc55 => ?_)
        · refine q_iconst (v := 0) hG rfl rfl ?_
          refine q_callV6 hG rfl rfl rfl (by assumption) (s_R_fine0 hm0 ?_)
          refine q_if_eq hG rfl ⟨by omega, by omega⟩ (fun _ => ?_) (fun q => absurd (by decide) q)
          refine q_iinc (c := 1) hG rfl rfl rfl rfl ?_
          refine q_goto hG rfl ?_
          refine q_iload_n hG rfl rfl ?_
          refine q_aload_n hG rfl rfl ?_
          refine q_getR hG rfl (by assumption) (by assumption) ?_
          refine q_iconst (v := 0) hG rfl rfl ?_
          refine q_ialdv (v := R 0) hG rfl (by assumption) ⟨by omega, by omega, by omega⟩ (by rw [st_row _ _ (by omega)]; exact hJ0 0 (by omega)) ?_
          refine q_icmp_ge hG rfl ⟨by omega, by omega⟩ ⟨by omega, by omega⟩ (fun hc9 => ?_) (fun hc9 => ?_)
          · refine q_aload_n hG rfl rfl ?_
            refine q_iconst (v := 1) hG rfl rfl ?_
            refine q_putI0 hG rfl (by assumption) ?_
            refine q_iconst (v := 0) hG rfl rfl ?_
            refine q_iret0 hG rfl rfl ?_
            refine pE (fun z hz => ?_) _ ((hs.t 1).t 1) (st_same _ _ _ _)
            by_cases e : z = k
            · rw [e, ← edw]; omega
            · exact hq0 z (by omega)
          · refine q_iconst (v := 0) hG rfl rfl ?_
            refine q_istore_n hG rfl rfl ?_
            refine q_iconst (v := 0) hG rfl rfl ?_
            refine q_istore hG rfl rfl ?_
            refine ih _ (by omega) (k + 1) 0 _ rfl (by omega) (by omega) (hs.t 1) (fun z hz => ?_)
            by_cases e : z = k
            · rw [e, ← edw]; omega
            · exact hq0 z (by omega)
        · refine q_iconst (v := 1) hG rfl rfl ?_
          refine q_goto hG rfl ?_
          refine q_callV6 hG rfl rfl rfl (by assumption) (s_R_fine1 hm0 ?_)
          refine q_if_eq hG rfl ⟨by omega, by omega⟩ (fun q => absurd q (by decide)) (fun _ => ?_)
          refine q_iload_n hG rfl rfl ?_
          refine q_iret0 hG rfl rfl ?_
          exact p1 k ⟨hk, by show dwR R k = x; rw [← edw]; omega, hq0⟩ _ (hs.t 0) (st_same _ _ _ _)
      · refine q_iload_n hG rfl rfl ?_
        refine q_aload_n hG rfl rfl ?_
        refine q_iload hG rfl rfl ?_
        refine q_iload_n hG rfl rfl ?_
        refine q_callV6 hG rfl rfl rfl (by assumption) (s_R_isNarrower (o := o) (x := k) hm0 hRJ hW0 hq (by omega) (by omega) (fun ha => ?_) (fun ha => ?_))
        · refine q_if_eq hG rfl ⟨by omega, by omega⟩ (fun q => absurd q (by decide)) (fun _ => ?_)
          refine q_iconst (v := 1) hG rfl rfl ?_
          refine q_goto hG rfl ?_
          refine q_iadd hG rfl ?_
          refine q_istore_n hG rfl rfl ?_
          refine q_iinc (c := 1) hG rfl rfl rfl rfl ?_
          refine q_goto hG rfl ?_
          refine Eq.mp ?_ (ih _ (by omega) k (o + 1) J rfl hk (by omega) hs hq0)
          congr 1
          show [_, _, _, some (Value.int (i3 (sm _ o + (if ahR R o k then 1 else 0)))), _] = [_, _, _, _, _]
          rw [if_pos ha]
          rfl
        · refine q_if_eq hG rfl ⟨by omega, by omega⟩ (fun _ => ?_) (fun q => absurd (by decide) q)
          refine q_iconst (v := 0) hG rfl rfl ?_
          refine q_iadd hG rfl ?_
          refine q_istore_n hG rfl rfl ?_
          refine q_iinc (c := 1) hG rfl rfl rfl rfl ?_
          refine q_goto hG rfl ?_
          refine Eq.mp ?_ (ih _ (by omega) k (o + 1) J rfl hk (by omega) hs hq0)
          congr 1
          show [_, _, _, some (Value.int (i3 (sm _ o + (if ahR R o k then 1 else 0)))), _] = [_, _, _, _, _]
          rw [if_neg ha]
          rfl
  show G 0 [some (.ref m), some (.int (i3 (x))), none, none, none] [] (wI B I)
  refine q_iconst (v := 0) hG rfl rfl ?_
  refine q_istore_n hG rfl rfl ?_
  refine q_iload_n hG rfl rfl ?_
  refine q_aload_n hG rfl rfl ?_
  refine q_getR hG rfl (by assumption) (by assumption) ?_
  refine q_iconst (v := 0) hG rfl rfl ?_
  refine q_ialdv (v := R 0) hG rfl (by assumption) ⟨by omega, by omega, by omega⟩ (hR0 0 (by omega)) ?_
  refine q_icmp_ge hG rfl ⟨by omega, by omega⟩ ⟨by omega, by omega⟩ (fun hc9 => ?_) (fun hc9 => ?_)
  · refine q_aload_n hG rfl rfl ?_
    refine q_iconst (v := 1) hG rfl rfl ?_
    refine q_putI0 hG rfl (by assumption) ?_
    refine q_iconst (v := 0) hG rfl rfl ?_
    refine q_iret0 hG rfl rfl ?_
    exact pE (fun z hz => by omega) _ ((sth.refl I m).t 1) (st_same _ _ _ _)
  · refine q_iconst (v := 0) hG rfl rfl ?_
    refine q_istore_n hG rfl rfl ?_
    refine q_iconst (v := 0) hG rfl rfl ?_
    refine q_istore hG rfl rfl ?_
    exact lq _ 0 0 _ rfl (by omega) (by omega) (sth.refl I m) (fun z hz => by omega)
theorem s_R_cgCount {d : Nat} {B : HP} {I : IM} {Post : Out → HP → Prop} {m : Nat} (hm : oM B m) {R : RW} {q : Int} (hR : RepM I m 0 R) (hW : WfR q R) (hq : q ≤ 2000000000) {x : Int} (hv : r32 x) (p1 : ∀ p : Nat, fst (fun q => cgR R q = x) (R 1).toNat p → ∀ J : IM, sth I J m → J m 0 = 0 → Post (.inl (some (.int (i3 (R (29 + 5 * p)))))) (wI B J)) (pE : (∀ q, q < (R 1).toNat → ¬ cgR R q = x) → ∀ J : IM, sth I J m → J m 0 = 1 → Post (.inl (some (.int (i3 0)))) (wI B J)) : Sp (d + 5) k_X9_constraintByGap [.ref m, .int (i3 (x))] (wI B I) Post := by
  refine Sp_intro md_X9_constraintByGap rfl rfl (fun G hG => ?_)
  have hm0 := hm
  obtain ⟨n1, n2, n3, n4, n5, n6, n7, n8, n9, n10, n11⟩ := hm
  have hR0 : ∀ j, j < 79 → I (m + 1) j = R j := hR.at
  have hRs : ∀ z : Int, ∀ j, j < 79 → st I m 0 z (m + 1) j = R j := fun z j hj => by rw [st_row _ _ (by omega)]; exact hR0 j hj
  have hW0 := hW
  obtain ⟨w0, w1, w2, w3, w4, wd, wc⟩ := hW
  have hdb : ∀ k, k < 6 → (0 ≤ R (5 + 4 * k + 2) ∧ R (5 + 4 * k + 2) ≤ 40) ∧ (0 ≤ R (5 + 4 * k + 3) ∧ R (5 + 4 * k + 3) ≤ 40) ∧ R (5 + 4 * k + 2) ≤ R (5 + 4 * k + 3) := fun k hk => by have u := (wd k hk).1; omega
  have lq : ∀ (mz : Nat) (k : Nat) (o : Nat) (J : IM), ((R 1).toNat - k) * 20 + ((R 1).toNat - o) = mz → k < (R 1).toNat → o ≤ (R 1).toNat → sth I J m → (∀ z, z < k → ¬ cgR R z = x) → G 17 [some (.ref m), some (.int (i3 x)), some (.int (i3 (k : Int))), some (.int (i3 (sm (fun o => if R (29 + 5 * k + 4) < R (29 + 5 * o + 4) ∨ (R (29 + 5 * o + 4) = R (29 + 5 * k + 4) ∧ o < k) then 1 else 0) o))), some (.int (i3 (o : Int)))] [] (wI B J) := by
    intro mz
    induction mz using Nat.strongRecOn with
    | ind mz ih =>
      intro k o J hme hk ho hs hq0
      have hRJ := hs.r hR
      have hJ0 : ∀ j, j < 79 → J (m + 1) j = R j := hRJ.at
      have bdk := sm_bd (f := fun o => if R (29 + 5 * k + 4) < R (29 + 5 * o + 4) ∨ (R (29 + 5 * o + 4) = R (29 + 5 * k + 4) ∧ o < k) then 1 else 0) (a := 0) (b := 1) (R 1).toNat (fun z _ => by split <;> omega)
      refine q_iload hG rfl rfl ?_
      refine q_aload_n hG rfl rfl ?_
      refine q_getR hG rfl (by assumption) (by assumption) ?_
      refine q_iconst (v := 1) hG rfl rfl ?_
      refine q_ialdv (v := R 1) hG rfl (by assumption) ⟨by omega, by omega, by omega⟩ (hJ0 1 (by omega)) ?_
      refine q_icmp_ge hG rfl ⟨by omega, by omega⟩ ⟨by omega, by omega⟩ (fun hc25 => ?_) (fun hc25 => ?_)
      · refine q_aload_n hG rfl rfl ?_
        refine q_iload_n hG rfl rfl ?_
        refine q_iload_n hG rfl rfl ?_
        have eo : o = (R 1).toNat := by omega
        subst eo
        have edw : sm (fun o => if R (29 + 5 * k + 4) < R (29 + 5 * o + 4) ∨ (R (29 + 5 * o + 4) = R (29 + 5 * k + 4) ∧ o < k) then 1 else 0) (R 1).toNat = cgR R k := rfl
        refine q_icmp_ne hG rfl ⟨by omega, by omega⟩ (hv) (fun hc83 => ?_) (fun hc83 => ?_)
        · refine q_iconst (v := 0) hG rfl rfl ?_
          refine q_callV6 hG rfl rfl rfl (by assumption) (s_R_fine0 hm0 ?_)
          refine q_if_eq hG rfl ⟨by omega, by omega⟩ (fun _ => ?_) (fun q => absurd (by decide) q)
          refine q_iinc (c := 1) hG rfl rfl rfl rfl ?_
          refine q_goto hG rfl ?_
          refine q_iload_n hG rfl rfl ?_
          refine q_aload_n hG rfl rfl ?_
          refine q_getR hG rfl (by assumption) (by assumption) ?_
          refine q_iconst (v := 1) hG rfl rfl ?_
          refine q_ialdv (v := R 1) hG rfl (by assumption) ⟨by omega, by omega, by omega⟩ (by rw [st_row _ _ (by omega)]; exact hJ0 1 (by omega)) ?_
          refine q_icmp_ge hG rfl ⟨by omega, by omega⟩ ⟨by omega, by omega⟩ (fun hc9 => ?_) (fun hc9 => ?_)
          · refine q_aload_n hG rfl rfl ?_
            refine q_iconst (v := 1) hG rfl rfl ?_
            refine q_putI0 hG rfl (by assumption) ?_
            refine q_iconst (v := 0) hG rfl rfl ?_
            refine q_iret0 hG rfl rfl ?_
            refine pE (fun z hz => ?_) _ ((hs.t 1).t 1) (st_same _ _ _ _)
            by_cases e : z = k
            · rw [e, ← edw]; omega
            · exact hq0 z (by omega)
          · refine q_iconst (v := 0) hG rfl rfl ?_
            refine q_istore_n hG rfl rfl ?_
            refine q_iconst (v := 0) hG rfl rfl ?_
            refine q_istore hG rfl rfl ?_
            refine ih _ (by omega) (k + 1) 0 _ rfl (by omega) (by omega) (hs.t 1) (fun z hz => ?_)
            by_cases e : z = k
            · rw [e, ← edw]; omega
            · exact hq0 z (by omega)
        · refine q_iconst (v := 1) hG rfl rfl ?_
          refine q_goto hG rfl ?_
          refine q_callV6 hG rfl rfl rfl (by assumption) (s_R_fine1 hm0 ?_)
          refine q_if_eq hG rfl ⟨by omega, by omega⟩ (fun q => absurd q (by decide)) (fun _ => ?_)
          refine q_aload_n hG rfl rfl ?_
          refine q_iload_n hG rfl rfl ?_
          refine q_iconst (v := 0) hG rfl rfl ?_
          refine q_callV6 hG rfl rfl rfl (by assumption) (s_R_cN (x := k) (w := 0) hm0 (by omega) (by decide) ?_)
          rw [show cR (st J m 0 0) m k 0 = R (29 + 5 * k) from by unfold cR; rw [st_row _ _ (by omega)]; exact hJ0 _ (by omega)]
          refine q_iret0 hG rfl rfl ?_
          exact p1 k ⟨hk, by show cgR R k = x; rw [← edw]; omega, hq0⟩ _ (hs.t 0) (st_same _ _ _ _)
      · refine q_iload_n hG rfl rfl ?_
        refine q_aload_n hG rfl rfl ?_
        refine q_iload hG rfl rfl ?_
        refine q_iconst (v := 4) hG rfl rfl ?_
        refine q_callV6 hG rfl rfl rfl (by assumption) (s_R_cN (x := o) (w := 4) hm0 (by omega) (by decide) ?_)
        rw [show cR J m o 4 = R (29 + 5 * o + 4) from hJ0 _ (by omega)]
        refine q_aload_n hG rfl rfl ?_
        refine q_iload_n hG rfl rfl ?_
        refine q_iconst (v := 4) hG rfl rfl ?_
        refine q_callV6 hG rfl rfl rfl (by assumption) (s_R_cN (x := k) (w := 4) hm0 (by omega) (by decide) ?_)
        rw [show cR J m k 4 = R (29 + 5 * k + 4) from hJ0 _ (by omega)]
        refine q_icmp_gt hG rfl (by have v1 := (wc k (by omega)).2.2.2.2.2.1; have v2 := (wc o (by omega)).2.2.2.2.2.1; exact ⟨by omega, by omega⟩) (by have v1 := (wc k (by omega)).2.2.2.2.2.1; have v2 := (wc o (by omega)).2.2.2.2.2.1; exact ⟨by omega, by omega⟩) (fun hc42 => ?_) (fun hc42 => ?_)
        · refine q_iconst (v := 1) hG rfl rfl ?_
          refine q_goto hG rfl ?_
          refine q_iadd hG rfl ?_
          refine q_istore_n hG rfl rfl ?_
          refine q_iinc (c := 1) hG rfl rfl rfl rfl ?_
          refine q_goto hG rfl ?_
          refine Eq.mp ?_ (ih _ (by omega) k (o + 1) J rfl hk (by omega) hs hq0)
          congr 1
          show [_, _, _, some (Value.int (i3 (sm _ o + (if R (29 + 5 * k + 4) < R (29 + 5 * o + 4) ∨ (R (29 + 5 * o + 4) = R (29 + 5 * k + 4) ∧ o < k) then 1 else 0)))), _] = [_, _, _, _, _]
          first
          | rw [if_pos (by omega)]; rfl
          | rw [if_neg (by omega)]; rfl
        · refine q_aload_n hG rfl rfl ?_
          refine q_iload hG rfl rfl ?_
          refine q_iconst (v := 4) hG rfl rfl ?_
          refine q_callV6 hG rfl rfl rfl (by assumption) (s_R_cN (x := o) (w := 4) hm0 (by omega) (by decide) ?_)
          rw [show cR J m o 4 = R (29 + 5 * o + 4) from hJ0 _ (by omega)]
          refine q_aload_n hG rfl rfl ?_
          refine q_iload_n hG rfl rfl ?_
          refine q_iconst (v := 4) hG rfl rfl ?_
          refine q_callV6 hG rfl rfl rfl (by assumption) (s_R_cN (x := k) (w := 4) hm0 (by omega) (by decide) ?_)
          rw [show cR J m k 4 = R (29 + 5 * k + 4) from hJ0 _ (by omega)]
          refine q_icmp_ne hG rfl (by have v1 := (wc k (by omega)).2.2.2.2.2.1; have v2 := (wc o (by omega)).2.2.2.2.2.1; exact ⟨by omega, by omega⟩) (by have v1 := (wc k (by omega)).2.2.2.2.2.1; have v2 := (wc o (by omega)).2.2.2.2.2.1; exact ⟨by omega, by omega⟩) (fun hc58 => ?_) (fun hc58 => ?_)
          · refine q_iconst (v := 0) hG rfl rfl ?_
            refine q_iadd hG rfl ?_
            refine q_istore_n hG rfl rfl ?_
            refine q_iinc (c := 1) hG rfl rfl rfl rfl ?_
            refine q_goto hG rfl ?_
            refine Eq.mp ?_ (ih _ (by omega) k (o + 1) J rfl hk (by omega) hs hq0)
            congr 1
            show [_, _, _, some (Value.int (i3 (sm _ o + (if R (29 + 5 * k + 4) < R (29 + 5 * o + 4) ∨ (R (29 + 5 * o + 4) = R (29 + 5 * k + 4) ∧ o < k) then 1 else 0)))), _] = [_, _, _, _, _]
            first
            | rw [if_pos (by omega)]; rfl
            | rw [if_neg (by omega)]; rfl
          · refine q_iload hG rfl rfl ?_
            refine q_iload_n hG rfl rfl ?_
            refine q_icmp_ge hG rfl ⟨by omega, by omega⟩ ⟨by omega, by omega⟩ (fun hc64 => ?_) (fun hc64 => ?_)
            · refine q_iconst (v := 0) hG rfl rfl ?_
              refine q_iadd hG rfl ?_
              refine q_istore_n hG rfl rfl ?_
              refine q_iinc (c := 1) hG rfl rfl rfl rfl ?_
              refine q_goto hG rfl ?_
              refine Eq.mp ?_ (ih _ (by omega) k (o + 1) J rfl hk (by omega) hs hq0)
              congr 1
              show [_, _, _, some (Value.int (i3 (sm _ o + (if R (29 + 5 * k + 4) < R (29 + 5 * o + 4) ∨ (R (29 + 5 * o + 4) = R (29 + 5 * k + 4) ∧ o < k) then 1 else 0)))), _] = [_, _, _, _, _]
              first
              | rw [if_pos (by omega)]; rfl
              | rw [if_neg (by omega)]; rfl
            · refine q_iconst (v := 1) hG rfl rfl ?_
              refine q_goto hG rfl ?_
              refine q_iadd hG rfl ?_
              refine q_istore_n hG rfl rfl ?_
              refine q_iinc (c := 1) hG rfl rfl rfl rfl ?_
              refine q_goto hG rfl ?_
              refine Eq.mp ?_ (ih _ (by omega) k (o + 1) J rfl hk (by omega) hs hq0)
              congr 1
              show [_, _, _, some (Value.int (i3 (sm _ o + (if R (29 + 5 * k + 4) < R (29 + 5 * o + 4) ∨ (R (29 + 5 * o + 4) = R (29 + 5 * k + 4) ∧ o < k) then 1 else 0)))), _] = [_, _, _, _, _]
              first
              | rw [if_pos (by omega)]; rfl
              | rw [if_neg (by omega)]; rfl
  show G 0 [some (.ref m), some (.int (i3 (x))), none, none, none] [] (wI B I)
  refine q_iconst (v := 0) hG rfl rfl ?_
  refine q_istore_n hG rfl rfl ?_
  refine q_iload_n hG rfl rfl ?_
  refine q_aload_n hG rfl rfl ?_
  refine q_getR hG rfl (by assumption) (by assumption) ?_
  refine q_iconst (v := 1) hG rfl rfl ?_
  refine q_ialdv (v := R 1) hG rfl (by assumption) ⟨by omega, by omega, by omega⟩ (hR0 1 (by omega)) ?_
  refine q_icmp_ge hG rfl ⟨by omega, by omega⟩ ⟨by omega, by omega⟩ (fun hc9 => ?_) (fun hc9 => ?_)
  · refine q_aload_n hG rfl rfl ?_
    refine q_iconst (v := 1) hG rfl rfl ?_
    refine q_putI0 hG rfl (by assumption) ?_
    refine q_iconst (v := 0) hG rfl rfl ?_
    refine q_iret0 hG rfl rfl ?_
    exact pE (fun z hz => by omega) _ ((sth.refl I m).t 1) (st_same _ _ _ _)
  · refine q_iconst (v := 0) hG rfl rfl ?_
    refine q_istore_n hG rfl rfl ?_
    refine q_iconst (v := 0) hG rfl rfl ?_
    refine q_istore hG rfl rfl ?_
    exact lq _ 0 0 _ rfl (by omega) (by omega) (sth.refl I m) (fun z hz => by omega)
theorem s_R_fixedCount {d : Nat} {B : HP} {I : IM} {Post : Out → HP → Prop} {m : Nat} (hm : oM B m) {R : RW} {q : Int} (hR : RepM I m 0 R) (hW : WfR q R) (hq : q ≤ 2000000000)  (p1 : Post (.inl (some (.int (i3 (fxR R))))) (wI B (st I m 0 0))) : Sp (d + 3) k_X9_fixedCount [.ref m] (wI B I) Post := by
  refine Sp_intro md_X9_fixedCount rfl rfl (fun G hG => ?_)
  have hm0 := hm
  obtain ⟨n1, n2, n3, n4, n5, n6, n7, n8, n9, n10, n11⟩ := hm
  have hR0 : ∀ j, j < 79 → I (m + 1) j = R j := hR.at
  have hRs : ∀ z : Int, ∀ j, j < 79 → st I m 0 z (m + 1) j = R j := fun z j hj => by rw [st_row _ _ (by omega)]; exact hR0 j hj
  have hW0 := hW
  obtain ⟨w0, w1, w2, w3, w4, wd, wc⟩ := hW
  have hdb : ∀ k, k < 6 → (0 ≤ R (5 + 4 * k + 2) ∧ R (5 + 4 * k + 2) ≤ 40) ∧ (0 ≤ R (5 + 4 * k + 3) ∧ R (5 + 4 * k + 3) ≤ 40) ∧ R (5 + 4 * k + 2) ≤ R (5 + 4 * k + 3) := fun k hk => by have u := (wd k hk).1; omega
  have lp : ∀ (mz : Nat) (k : Nat), (R 0).toNat - k = mz → k ≤ (R 0).toNat → G 9 [some (.ref m), some (.int (i3 (sm (fun k => if R (5 + 4 * k + 2) = R (5 + 4 * k + 3) then 1 else 0) k))), some (.int (i3 (k : Int)))] [] (wI B (st I m 0 0)) := by
    intro mz
    induction mz using Nat.strongRecOn with
    | ind mz ih =>
      intro k hme hk
      refine q_iload_n hG rfl rfl ?_
      refine q_aload_n hG rfl rfl ?_
      refine q_getR hG rfl (by assumption) (by assumption) ?_
      refine q_iconst (v := 0) hG rfl rfl ?_
      refine q_ialdv (v := R 0) hG rfl (by assumption) ⟨by omega, by omega, by omega⟩ (hRs 0 0 (by omega)) ?_
      refine q_icmp_ge hG rfl ⟨by omega, by omega⟩ ⟨by omega, by omega⟩ (fun hc16 => ?_) (fun hc16 => ?_)
      · refine q_iload_n hG rfl rfl ?_
        refine q_iret0 hG rfl rfl ?_
        unfold fxR at p1
        rw [show (R 0).toNat = k by omega] at p1
        exact p1
      · refine q_iload_n hG rfl rfl ?_
        refine q_aload_n hG rfl rfl ?_
        refine q_iload_n hG rfl rfl ?_
        refine q_callV6 hG rfl rfl rfl (by assumption) (s_R_width hm0 ⟨by omega, by omega⟩ ?_)
        rw [show dR (st I m 0 0) m (k : Int).toNat 3 - dR (st I m 0 0) m (k : Int).toNat 2 + 1 = wdR R k from by unfold dR; rw [Int.toNat_natCast, hRs 0 _ (by omega), hRs 0 _ (by omega)]; rfl]
        have ek : wdR R k = R (5 + 4 * k + 3) - R (5 + 4 * k + 2) + 1 := rfl
        have dk := hdb k (by omega)
        refine q_iconst (v := 1) hG rfl rfl ?_
        refine q_icmp_ne hG rfl ⟨by omega, by omega⟩ ⟨by omega, by omega⟩ (fun hc26 => ?_) (fun hc26 => ?_)
        · refine q_iconst (v := 0) hG rfl rfl ?_
          refine q_iadd hG rfl ?_
          refine q_istore_n hG rfl rfl ?_
          refine q_iinc (c := 1) hG rfl rfl rfl rfl ?_
          refine q_goto hG rfl ?_
          refine Eq.mp ?_ (ih _ (by omega) (k + 1) rfl (by omega))
          congr 1
          show [_, some (Value.int (i3 (sm _ k + (if R (5 + 4 * k + 2) = R (5 + 4 * k + 3) then 1 else 0)))), _] = [_, _, _]
          first
          | rw [if_pos (by omega)]; rfl
          | rw [if_neg (by omega)]; rfl
        · refine q_iconst (v := 1) hG rfl rfl ?_
          refine q_goto hG rfl ?_
          refine q_iadd hG rfl ?_
          refine q_istore_n hG rfl rfl ?_
          refine q_iinc (c := 1) hG rfl rfl rfl rfl ?_
          refine q_goto hG rfl ?_
          refine Eq.mp ?_ (ih _ (by omega) (k + 1) rfl (by omega))
          congr 1
          show [_, some (Value.int (i3 (sm _ k + (if R (5 + 4 * k + 2) = R (5 + 4 * k + 3) then 1 else 0)))), _] = [_, _, _]
          first
          | rw [if_pos (by omega)]; rfl
          | rw [if_neg (by omega)]; rfl
  show G 0 [some (.ref m), none, none] [] (wI B I)
  refine q_aload_n hG rfl rfl ?_
  refine q_iconst (v := 0) hG rfl rfl ?_
  refine q_putI0 hG rfl (by assumption) ?_
  refine q_iconst (v := 0) hG rfl rfl ?_
  refine q_istore_n hG rfl rfl ?_
  refine q_iconst (v := 0) hG rfl rfl ?_
  refine q_istore_n hG rfl rfl ?_
  exact lp _ 0 rfl (by omega)
theorem s_R_totalWidth {d : Nat} {B : HP} {I : IM} {Post : Out → HP → Prop} {m : Nat} (hm : oM B m) {R : RW} {q : Int} (hR : RepM I m 0 R) (hW : WfR q R) (hq : q ≤ 2000000000)  (p1 : Post (.inl (some (.int (i3 (twR R))))) (wI B (st I m 0 0))) : Sp (d + 3) k_X9_totalWidth [.ref m] (wI B I) Post := by
  refine Sp_intro md_X9_totalWidth rfl rfl (fun G hG => ?_)
  have hm0 := hm
  obtain ⟨n1, n2, n3, n4, n5, n6, n7, n8, n9, n10, n11⟩ := hm
  have hR0 : ∀ j, j < 79 → I (m + 1) j = R j := hR.at
  have hRs : ∀ z : Int, ∀ j, j < 79 → st I m 0 z (m + 1) j = R j := fun z j hj => by rw [st_row _ _ (by omega)]; exact hR0 j hj
  have hW0 := hW
  obtain ⟨w0, w1, w2, w3, w4, wd, wc⟩ := hW
  have hdb : ∀ k, k < 6 → (0 ≤ R (5 + 4 * k + 2) ∧ R (5 + 4 * k + 2) ≤ 40) ∧ (0 ≤ R (5 + 4 * k + 3) ∧ R (5 + 4 * k + 3) ≤ 40) ∧ R (5 + 4 * k + 2) ≤ R (5 + 4 * k + 3) := fun k hk => by have u := (wd k hk).1; omega
  have lp : ∀ (mz : Nat) (k : Nat), (R 0).toNat - k = mz → k ≤ (R 0).toNat → G 9 [some (.ref m), some (.int (i3 (sm (wdR R) k))), some (.int (i3 (k : Int)))] [] (wI B (st I m 0 0)) := by
    intro mz
    induction mz using Nat.strongRecOn with
    | ind mz ih =>
      intro k hme hk
      refine q_iload_n hG rfl rfl ?_
      refine q_aload_n hG rfl rfl ?_
      refine q_getR hG rfl (by assumption) (by assumption) ?_
      refine q_iconst (v := 0) hG rfl rfl ?_
      refine q_ialdv (v := R 0) hG rfl (by assumption) ⟨by omega, by omega, by omega⟩ (hRs 0 0 (by omega)) ?_
      refine q_icmp_ge hG rfl ⟨by omega, by omega⟩ ⟨by omega, by omega⟩ (fun hc16 => ?_) (fun hc16 => ?_)
      · refine q_iload_n hG rfl rfl ?_
        refine q_iret0 hG rfl rfl ?_
        unfold twR at p1
        rw [show (R 0).toNat = k by omega] at p1
        exact p1
      · refine q_iload_n hG rfl rfl ?_
        refine q_aload_n hG rfl rfl ?_
        refine q_iload_n hG rfl rfl ?_
        refine q_callV6 hG rfl rfl rfl (by assumption) (s_R_width hm0 ⟨by omega, by omega⟩ ?_)
        rw [show dR (st I m 0 0) m (k : Int).toNat 3 - dR (st I m 0 0) m (k : Int).toNat 2 + 1 = wdR R k from by unfold dR; rw [Int.toNat_natCast, hRs 0 _ (by omega), hRs 0 _ (by omega)]; rfl]
        have ek : wdR R k = R (5 + 4 * k + 3) - R (5 + 4 * k + 2) + 1 := rfl
        have dk := hdb k (by omega)
        refine q_iadd hG rfl ?_
        refine q_istore_n hG rfl rfl ?_
        refine q_iinc (c := 1) hG rfl rfl rfl rfl ?_
        refine q_goto hG rfl ?_
        exact ih _ (by omega) (k + 1) rfl (by omega)
  show G 0 [some (.ref m), none, none] [] (wI B I)
  refine q_aload_n hG rfl rfl ?_
  refine q_iconst (v := 0) hG rfl rfl ?_
  refine q_putI0 hG rfl (by assumption) ?_
  refine q_iconst (v := 0) hG rfl rfl ?_
  refine q_istore_n hG rfl rfl ?_
  refine q_iconst (v := 0) hG rfl rfl ?_
  refine q_istore_n hG rfl rfl ?_
  exact lp _ 0 rfl (by omega)
theorem s_R_totalFrameWidth {d : Nat} {B : HP} {I : IM} {Post : Out → HP → Prop} {m : Nat} (hm : oM B m) {R : RW} {q : Int} (hR : RepM I m 0 R) (hW : WfR q R) (hq : q ≤ 2000000000)  (p1 : Post (.inl (some (.int (i3 (tfR R))))) (wI B (st I m 0 0))) : Sp (d + 3) k_X9_totalFrameWidth [.ref m] (wI B I) Post := by
  refine Sp_intro md_X9_totalFrameWidth rfl rfl (fun G hG => ?_)
  have hm0 := hm
  obtain ⟨n1, n2, n3, n4, n5, n6, n7, n8, n9, n10, n11⟩ := hm
  have hR0 : ∀ j, j < 79 → I (m + 1) j = R j := hR.at
  have hRs : ∀ z : Int, ∀ j, j < 79 → st I m 0 z (m + 1) j = R j := fun z j hj => by rw [st_row _ _ (by omega)]; exact hR0 j hj
  have hW0 := hW
  obtain ⟨w0, w1, w2, w3, w4, wd, wc⟩ := hW
  have hdb : ∀ k, k < 6 → (0 ≤ R (5 + 4 * k + 2) ∧ R (5 + 4 * k + 2) ≤ 40) ∧ (0 ≤ R (5 + 4 * k + 3) ∧ R (5 + 4 * k + 3) ≤ 40) ∧ R (5 + 4 * k + 2) ≤ R (5 + 4 * k + 3) := fun k hk => by have u := (wd k hk).1; omega
  have lp : ∀ (mz : Nat) (k : Nat), (R 0).toNat - k = mz → k ≤ (R 0).toNat → G 9 [some (.ref m), some (.int (i3 (sm (fun k => R (5 + 4 * k + 1) - R (5 + 4 * k) + 1) k))), some (.int (i3 (k : Int)))] [] (wI B (st I m 0 0)) := by
    intro mz
    induction mz using Nat.strongRecOn with
    | ind mz ih =>
      intro k hme hk
      refine q_iload_n hG rfl rfl ?_
      refine q_aload_n hG rfl rfl ?_
      refine q_getR hG rfl (by assumption) (by assumption) ?_
      refine q_iconst (v := 0) hG rfl rfl ?_
      refine q_ialdv (v := R 0) hG rfl (by assumption) ⟨by omega, by omega, by omega⟩ (hRs 0 0 (by omega)) ?_
      refine q_icmp_ge hG rfl ⟨by omega, by omega⟩ ⟨by omega, by omega⟩ (fun hc16 => ?_) (fun hc16 => ?_)
      · refine q_iload_n hG rfl rfl ?_
        refine q_iret0 hG rfl rfl ?_
        unfold tfR at p1
        rw [show (R 0).toNat = k by omega] at p1
        exact p1
      · refine q_iload_n hG rfl rfl ?_
        refine q_aload_n hG rfl rfl ?_
        refine q_iload_n hG rfl rfl ?_
        refine q_iconst (v := 1) hG rfl rfl ?_
        refine q_callV6 hG rfl rfl rfl (by assumption) (s_R_dN (x := k) (w := 1) hm0 (by omega) (by decide) ?_)
        rw [show dR (st I m 0 0) m k 1 = R (5 + 4 * k + 1) from hRs 0 _ (by omega)]
        refine q_aload_n hG rfl rfl ?_
        refine q_iload_n hG rfl rfl ?_
        refine q_iconst (v := 0) hG rfl rfl ?_
        refine q_callV6 hG rfl rfl rfl (by assumption) (s_R_dN (x := k) (w := 0) hm0 (by omega) (by decide) ?_)
        rw [show dR (st I m 0 0) m k 0 = R (5 + 4 * k + 0) from hRs 0 _ (by omega)]
        refine q_isub hG rfl ?_
        refine q_iconst (v := 1) hG rfl rfl ?_
        refine q_iadd hG rfl ?_
        refine q_iadd hG rfl ?_
        refine q_istore_n hG rfl rfl ?_
        refine q_iinc (c := 1) hG rfl rfl rfl rfl ?_
        refine q_goto hG rfl ?_
        exact ih _ (by omega) (k + 1) rfl (by omega)
  show G 0 [some (.ref m), none, none] [] (wI B I)
  refine q_aload_n hG rfl rfl ?_
  refine q_iconst (v := 0) hG rfl rfl ?_
  refine q_putI0 hG rfl (by assumption) ?_
  refine q_iconst (v := 0) hG rfl rfl ?_
  refine q_istore_n hG rfl rfl ?_
  refine q_iconst (v := 0) hG rfl rfl ?_
  refine q_istore_n hG rfl rfl ?_
  exact lp _ 0 rfl (by omega)
theorem s_R_syntaxErrorOffset {d : Nat} {B : HP} {I : IM} {Post : Out → HP → Prop} {m : Nat} (hm : oM B m) {eo z0 : Int} (hc : I m 19 = eo) (hf : I m 19 = eo) (hrc : r32 eo) (pE : eo = -1 → Post (.inl (some (.int (i3 0)))) (wI B (st I m 0 1))) (p1 : ¬ (eo = -1) → Post (.inl (some (.int (i3 eo)))) (wI B (st I m 0 0))) : Sp (d + 2) k_X9_syntaxErrorOffset [.ref m] (wI B I) Post := by
  refine Sp_intro md_X9_syntaxErrorOffset rfl rfl (fun G hG => ?_)
  have hm0 := hm
  obtain ⟨n1, n2, n3, n4, n5, n6, n7, n8, n9, n10, n11⟩ := hm
  show G 0 [some (.ref m)] [] (wI B I)
  refine q_aload_n hG rfl rfl ?_
  refine q_aload_n hG rfl rfl ?_
  refine q_getI0v (v := eo) hG rfl (by assumption) (hc) ?_
  refine q_iconst (v := -1) hG rfl rfl ?_
  refine q_icmp_eq hG rfl (hrc) ⟨by omega, by omega⟩ (fun hc6 => ?_) (fun hc6 => ?_)
  · refine q_iconst (v := 0) hG rfl rfl ?_
    refine q_callV6 hG rfl rfl rfl (by assumption) (s_R_fine0 hm0 ?_)
    refine q_if_eq hG rfl ⟨by omega, by omega⟩ (fun _ => ?_) (fun q => absurd (by decide) q)
    refine q_iconst (v := 0) hG rfl rfl ?_
    refine q_iret0 hG rfl rfl ?_
    first
    | exact p1 (by omega)
    | exact pE (by omega)
  · refine q_iconst (v := 1) hG rfl rfl ?_
    refine q_goto hG rfl ?_
    refine q_callV6 hG rfl rfl rfl (by assumption) (s_R_fine1 hm0 ?_)
    refine q_if_eq hG rfl ⟨by omega, by omega⟩ (fun q => absurd q (by decide)) (fun _ => ?_)
    refine q_aload_n hG rfl rfl ?_
    refine q_getI0v (v := eo) hG rfl (by assumption) (by rw [st_ne _ _ (by omega)]; exact hf) ?_
    refine q_goto hG rfl ?_
    refine q_iret0 hG rfl rfl ?_
    first
    | exact p1 (by omega)
    | exact pE (by omega)
theorem s_R_rejectionReason {d : Nat} {B : HP} {I : IM} {Post : Out → HP → Prop} {m : Nat} (hm : oM B m) {why z0 : Int} (hc : I m 5 = why) (hf : I m 5 = why) (hrc : r32 why) (pE : why = 0 → Post (.inl (some (.int (i3 0)))) (wI B (st I m 0 1))) (p1 : ¬ (why = 0) → Post (.inl (some (.int (i3 why)))) (wI B (st I m 0 0))) : Sp (d + 2) k_X9_rejectionReason [.ref m] (wI B I) Post := by
  refine Sp_intro md_X9_rejectionReason rfl rfl (fun G hG => ?_)
  have hm0 := hm
  obtain ⟨n1, n2, n3, n4, n5, n6, n7, n8, n9, n10, n11⟩ := hm
  show G 0 [some (.ref m)] [] (wI B I)
  refine q_aload_n hG rfl rfl ?_
  refine q_aload_n hG rfl rfl ?_
  refine q_getI0v (v := why) hG rfl (by assumption) (hc) ?_
  refine q_if_eq hG rfl (hrc) (fun hc5 => ?_) (fun hc5 => ?_)
  · refine q_iconst (v := 0) hG rfl rfl ?_
    refine q_callV6 hG rfl rfl rfl (by assumption) (s_R_fine0 hm0 ?_)
    refine q_if_eq hG rfl ⟨by omega, by omega⟩ (fun _ => ?_) (fun q => absurd (by decide) q)
    refine q_iconst (v := 0) hG rfl rfl ?_
    refine q_iret0 hG rfl rfl ?_
    first
    | exact p1 (by omega)
    | exact pE (by omega)
  · refine q_iconst (v := 1) hG rfl rfl ?_
    refine q_goto hG rfl ?_
    refine q_callV6 hG rfl rfl rfl (by assumption) (s_R_fine1 hm0 ?_)
    refine q_if_eq hG rfl ⟨by omega, by omega⟩ (fun q => absurd q (by decide)) (fun _ => ?_)
    refine q_aload_n hG rfl rfl ?_
    refine q_getI0v (v := why) hG rfl (by assumption) (by rw [st_ne _ _ (by omega)]; exact hf) ?_
    refine q_goto hG rfl ?_
    refine q_iret0 hG rfl rfl ?_
    first
    | exact p1 (by omega)
    | exact pE (by omega)
theorem s_R_rejectionDetail {d : Nat} {B : HP} {I : IM} {Post : Out → HP → Prop} {m : Nat} (hm : oM B m) {why det : Int} (hc : I m 5 = why) (hf : I m 6 = det) (hrc : r32 why) (pE : why = 0 → Post (.inl (some (.int (i3 0)))) (wI B (st I m 0 1))) (p1 : ¬ (why = 0) → Post (.inl (some (.int (i3 det)))) (wI B (st I m 0 0))) : Sp (d + 2) k_X9_rejectionDetail [.ref m] (wI B I) Post := by
  refine Sp_intro md_X9_rejectionDetail rfl rfl (fun G hG => ?_)
  have hm0 := hm
  obtain ⟨n1, n2, n3, n4, n5, n6, n7, n8, n9, n10, n11⟩ := hm
  show G 0 [some (.ref m)] [] (wI B I)
  refine q_aload_n hG rfl rfl ?_
  refine q_aload_n hG rfl rfl ?_
  refine q_getI0v (v := why) hG rfl (by assumption) (hc) ?_
  refine q_if_eq hG rfl (hrc) (fun hc5 => ?_) (fun hc5 => ?_)
  · refine q_iconst (v := 0) hG rfl rfl ?_
    refine q_callV6 hG rfl rfl rfl (by assumption) (s_R_fine0 hm0 ?_)
    refine q_if_eq hG rfl ⟨by omega, by omega⟩ (fun _ => ?_) (fun q => absurd (by decide) q)
    refine q_iconst (v := 0) hG rfl rfl ?_
    refine q_iret0 hG rfl rfl ?_
    first
    | exact p1 (by omega)
    | exact pE (by omega)
  · refine q_iconst (v := 1) hG rfl rfl ?_
    refine q_goto hG rfl ?_
    refine q_callV6 hG rfl rfl rfl (by assumption) (s_R_fine1 hm0 ?_)
    refine q_if_eq hG rfl ⟨by omega, by omega⟩ (fun q => absurd q (by decide)) (fun _ => ?_)
    refine q_aload_n hG rfl rfl ?_
    refine q_getI0v (v := det) hG rfl (by assumption) (by rw [st_ne _ _ (by omega)]; exact hf) ?_
    refine q_goto hG rfl ?_
    refine q_iret0 hG rfl rfl ?_
    first
    | exact p1 (by omega)
    | exact pE (by omega)
theorem s_R_causeReason {d : Nat} {B : HP} {I : IM} {Post : Out → HP → Prop} {m : Nat} (hm : oM B m) {why cau : Int} (hc : I m 5 = why) (hf : I m 7 = cau) (hrc : r32 why) (pE : why ≠ 6 → Post (.inl (some (.int (i3 0)))) (wI B (st I m 0 1))) (p1 : ¬ (why ≠ 6) → Post (.inl (some (.int (i3 cau)))) (wI B (st I m 0 0))) : Sp (d + 2) k_X9_causeReason [.ref m] (wI B I) Post := by
  refine Sp_intro md_X9_causeReason rfl rfl (fun G hG => ?_)
  have hm0 := hm
  obtain ⟨n1, n2, n3, n4, n5, n6, n7, n8, n9, n10, n11⟩ := hm
  show G 0 [some (.ref m)] [] (wI B I)
  refine q_aload_n hG rfl rfl ?_
  refine q_aload_n hG rfl rfl ?_
  refine q_getI0v (v := why) hG rfl (by assumption) (hc) ?_
  refine q_bipush (v := 6) hG rfl rfl ?_
  refine q_icmp_ne hG rfl (hrc) ⟨by omega, by omega⟩ (fun hc7 => ?_) (fun hc7 => ?_)
  · refine q_iconst (v := 0) hG rfl rfl ?_
    refine q_callV6 hG rfl rfl rfl (by assumption) (s_R_fine0 hm0 ?_)
    refine q_if_eq hG rfl ⟨by omega, by omega⟩ (fun _ => ?_) (fun q => absurd (by decide) q)
    refine q_iconst (v := 0) hG rfl rfl ?_
    refine q_iret0 hG rfl rfl ?_
    first
    | exact p1 (by omega)
    | exact pE (by omega)
  · refine q_iconst (v := 1) hG rfl rfl ?_
    refine q_goto hG rfl ?_
    refine q_callV6 hG rfl rfl rfl (by assumption) (s_R_fine1 hm0 ?_)
    refine q_if_eq hG rfl ⟨by omega, by omega⟩ (fun q => absurd q (by decide)) (fun _ => ?_)
    refine q_aload_n hG rfl rfl ?_
    refine q_getI0v (v := cau) hG rfl (by assumption) (by rw [st_ne _ _ (by omega)]; exact hf) ?_
    refine q_goto hG rfl ?_
    refine q_iret0 hG rfl rfl ?_
    first
    | exact p1 (by omega)
    | exact pE (by omega)
theorem s_R_isConsistent {d : Nat} {B : HP} {I : IM} {Post : Out → HP → Prop} {m : Nat} (hm : oM B m)  (p1 : Post (.inl (some (.int (i3 1)))) (wI B (st I m 0 0))) : Sp (d + 1) k_X9_isConsistent [.ref m] (wI B I) Post := by
  refine Sp_intro md_X9_isConsistent rfl rfl (fun G hG => ?_)
  have hm0 := hm
  obtain ⟨n1, n2, n3, n4, n5, n6, n7, n8, n9, n10, n11⟩ := hm
  show G 0 [some (.ref m)] [] (wI B I)
  refine q_aload_n hG rfl rfl ?_
  refine q_iconst (v := 0) hG rfl rfl ?_
  refine q_putI0 hG rfl (by assumption) ?_
  refine q_iconst (v := 1) hG rfl rfl ?_
  refine q_iret5 hG rfl rfl (by decide) ?_
  exact p1
theorem s_R_thrown {d : Nat} {B : HP} {I : IM} {Post : Out → HP → Prop} {m : Nat} (hm : oM B m) {v : Int} (hv : I m 0 = v) (p1 : Post (.inl (some (.int (i3 v)))) (wI B I)) : Sp (d + 1) k_X9_thrown [.ref m] (wI B I) Post := by
  refine Sp_intro md_X9_thrown rfl rfl (fun G hG => ?_)
  have hm0 := hm
  obtain ⟨n1, n2, n3, n4, n5, n6, n7, n8, n9, n10, n11⟩ := hm
  show G 0 [some (.ref m)] [] (wI B I)
  refine q_aload_n hG rfl rfl ?_
  refine q_getI0v (v := v) hG rfl (by assumption) (hv) ?_
  refine q_iret0 hG rfl rfl ?_
  exact p1
theorem s_R_undo {d : Nat} {B : HP} {I : IM} {Post : Out → HP → Prop} {m : Nat} (hm : oM B m) {R : RW} {c : Int} {h : Nat → RW} {sv : Int} {SR : RW} {eo why det cau q : Int} (hM : MSt I m R c h sv SR eo why det cau)  (p1 : 0 < c → ∀ J : IM, MSt J m (h 0) (c - 1) (fun j => h (j + 1)) sv SR eo why det cau → J m 0 = 0 → mfT I J m → Post (.inl (some (.int (i3 (c - 1))))) (wI B J)) (pE : c = 0 → Post (.inl (some (.int (i3 0)))) (wI B (st I m 0 1))) : Sp (d + 2) k_X9_undo [.ref m] (wI B I) Post := by
  refine Sp_intro md_X9_undo rfl rfl (fun G hG => ?_)
  have hm0 := hm
  obtain ⟨n1, n2, n3, n4, n5, n6, n7, n8, n9, n10, n11⟩ := hm
  obtain ⟨a, b, e0, e1, f, g, i, j⟩ := hM
  obtain ⟨b0, b1, b2⟩ := b
  show G 0 [some (.ref m)] [] (wI B I)
  refine q_aload_n hG rfl rfl ?_
  refine q_aload_n hG rfl rfl ?_
  refine q_getI0v (v := c) hG rfl (by assumption) (b0) ?_
  refine q_if_le hG rfl ⟨by omega, by omega⟩ (fun hc5 => ?_) (fun hc5 => ?_)
  · refine q_iconst (v := 0) hG rfl rfl ?_
    refine q_callV6 hG rfl rfl rfl (by assumption) (s_R_fine0 hm0 ?_)
    refine q_if_ne hG rfl ⟨by omega, by omega⟩ (fun q => absurd q (by decide)) (fun _ => ?_)
    refine q_iconst (v := 0) hG rfl rfl ?_
    refine q_iret0 hG rfl rfl ?_
    first
    | exact pE (by omega)
    | have jf : ∀ k, k ≠ 0 → k ≠ 2 → st J1 m 2 (c - 1) m k = I m k := fun k h0 h2 => by rw [st_ne _ _ (by omega), J1m, st_ne _ _ (by omega)]
      have js : ∀ k, 79 ≤ k → st J1 m 2 (c - 1) (m + 1) k = I (m + 1) k := fun k hk => by rw [st_row _ _ (by omega), a2 k (by omega), st_row _ _ (by omega)]
      refine p1 (by omega) _ ⟨fun k hk => ?_, ⟨st_same _ _ _ _, by omega, fun z hz => ?_⟩, by rw [jf 3 (by omega) (by omega)]; exact e0, fun z => (e1 z).row (fun k h1 h2 => js k (by omega)), by rw [jf 19 (by omega) (by omega)]; exact f, by rw [jf 5 (by omega) (by omega)]; exact g, by rw [jf 6 (by omega) (by omega)]; exact i, by rw [jf 7 (by omega) (by omega)]; exact j⟩ (by rw [st_ne _ _ (by omega), J1m, st_same]) ⟨fun k p q => by rw [st_row _ _ p, a3 k q, st_row _ _ p], fun k hk => jf k (by omega) (by omega)⟩
      · rw [st_row _ _ (by omega), a1 k hk, st_row _ _ (by omega)]
        have q := b2 0 (by omega)
        rw [show c.toNat - 0 = c.toNat by omega] at q
        exact q k hk
      · have q := b2 (z + 1) (by omega)
        rw [show c.toNat - (z + 1) = (c - 1).toNat - z by omega] at q
        exact q.row (fun k h1 h2 => js k (by omega))
  · refine q_iconst (v := 1) hG rfl rfl ?_
    refine q_goto hG rfl ?_
    refine q_callV6 hG rfl rfl rfl (by assumption) (s_R_fine1 hm0 ?_)
    refine q_if_ne hG rfl ⟨by omega, by omega⟩ (fun _ => ?_) (fun q => absurd (by decide) q)
    refine q_aload_n hG rfl rfl ?_
    refine q_aload_n hG rfl rfl ?_
    refine q_getI0v (v := (c.toNat : Int)) hG rfl (by assumption) (by rw [st_ne _ _ (by omega), b0]; omega) ?_
    refine q_iconst (v := 0) hG rfl rfl ?_
    refine q_callV6 hG rfl rfl rfl (by assumption) (s_R_copies (a := c.toNat) (b := 0) hm0 (by omega) (by decide) (fun J1 a1 a2 a3 => ?_))
    have J1m : J1 m = st I m 0 0 m := a3 m (by omega)
    refine q_aload_n hG rfl rfl ?_
    refine q_dup hG rfl rfl ?_
    refine q_getI0v (v := c) hG rfl (by assumption) (by rw [J1m, st_ne _ _ (by omega)]; exact b0) ?_
    refine q_iconst (v := 1) hG rfl rfl ?_
    refine q_isub hG rfl ?_
    refine q_putI0 hG rfl (by assumption) ?_
    refine q_aload_n hG rfl rfl ?_
    refine q_getI0v (v := c - 1) hG rfl (by assumption) (by rw [st_same]) ?_
    refine q_iret0 hG rfl rfl ?_
    first
    | exact pE (by omega)
    | have jf : ∀ k, k ≠ 0 → k ≠ 2 → st J1 m 2 (c - 1) m k = I m k := fun k h0 h2 => by rw [st_ne _ _ (by omega), J1m, st_ne _ _ (by omega)]
      have js : ∀ k, 79 ≤ k → st J1 m 2 (c - 1) (m + 1) k = I (m + 1) k := fun k hk => by rw [st_row _ _ (by omega), a2 k (by omega), st_row _ _ (by omega)]
      refine p1 (by omega) _ ⟨fun k hk => ?_, ⟨st_same _ _ _ _, by omega, fun z hz => ?_⟩, by rw [jf 3 (by omega) (by omega)]; exact e0, fun z => (e1 z).row (fun k h1 h2 => js k (by omega)), by rw [jf 19 (by omega) (by omega)]; exact f, by rw [jf 5 (by omega) (by omega)]; exact g, by rw [jf 6 (by omega) (by omega)]; exact i, by rw [jf 7 (by omega) (by omega)]; exact j⟩ (by rw [st_ne _ _ (by omega), J1m, st_same]) ⟨fun k p q => by rw [st_row _ _ p, a3 k q, st_row _ _ p], fun k hk => jf k (by omega) (by omega)⟩
      · rw [st_row _ _ (by omega), a1 k hk, st_row _ _ (by omega)]
        have q := b2 0 (by omega)
        rw [show c.toNat - 0 = c.toNat by omega] at q
        exact q k hk
      · have q := b2 (z + 1) (by omega)
        rw [show c.toNat - (z + 1) = (c - 1).toNat - z by omega] at q
        exact q.row (fun k h1 h2 => js k (by omega))
theorem s_R_save {d : Nat} {B : HP} {I : IM} {Post : Out → HP → Prop} {m : Nat} (hm : oM B m) {R : RW} {c : Int} {h : Nat → RW} {sv : Int} {SR : RW} {eo why det cau q : Int} (hM : MSt I m R c h sv SR eo why det cau)  (p1 : ∀ J : IM, MSt J m R c h 1 R eo why det cau → J m 0 = 0 → mfT I J m → Post (.inl (some (.int (i3 (R 0))))) (wI B J)) : Sp (d + 2) k_X9_saveSnapshot [.ref m] (wI B I) Post := by
  refine Sp_intro md_X9_saveSnapshot rfl rfl (fun G hG => ?_)
  have hm0 := hm
  obtain ⟨n1, n2, n3, n4, n5, n6, n7, n8, n9, n10, n11⟩ := hm
  obtain ⟨a, b, e0, e1, f, g, i, j⟩ := hM
  show G 0 [some (.ref m)] [] (wI B I)
  refine q_aload_n hG rfl rfl ?_
  refine q_iconst (v := 0) hG rfl rfl ?_
  refine q_putI0 hG rfl (by assumption) ?_
  refine q_aload_n hG rfl rfl ?_
  refine q_iconst (v := 1) hG rfl rfl ?_
  refine q_putI5 hG rfl (by assumption) (by omega) ?_
  refine q_aload_n hG rfl rfl ?_
  refine q_iconst (v := 0) hG rfl rfl ?_
  refine q_bipush (v := 9) hG rfl rfl ?_
  refine q_callV6 hG rfl rfl rfl (by assumption) (s_R_copies (a := 0) (b := 9) hm0 (by decide) (by decide) (fun J1 a1 a2 a3 => ?_))
  have J1m : J1 m = st (st I m 0 0) m 3 1 m := a3 m (by omega)
  refine q_aload_n hG rfl rfl ?_
  refine q_getR hG rfl (by assumption) (by assumption) ?_
  refine q_iconst (v := 0) hG rfl rfl ?_
  refine q_ialdv (v := R 0) hG rfl (by assumption) ⟨by omega, by omega, by omega⟩ (by show J1 (m + 1) 0 = R 0; rw [a2 0 (by omega), st_row _ _ (by omega), st_row _ _ (by omega)]; exact a.at 0 (by omega)) ?_
  refine q_iret0 hG rfl rfl ?_
  have jf : ∀ k, k ≠ 0 → k ≠ 3 → J1 m k = I m k := fun k h0 h2 => by rw [J1m, st_ne _ _ (by omega), st_ne _ _ (by omega)]
  have js : ∀ k, (k < 711 ∨ 790 ≤ k) → J1 (m + 1) k = I (m + 1) k := fun k hk => by rw [a2 k (by omega), st_row _ _ (by omega), st_row _ _ (by omega)]
  refine p1 J1 ⟨a.row (fun k h1 h2 => js k (by omega)), b.keep (jf 2 (by omega) (by omega)) (fun k h1 h2 => js k (by omega)), ⟨by rw [J1m, st_same], Or.inr rfl⟩, fun _ k hk => ?_, by rw [jf 19 (by omega) (by omega)]; exact f, by rw [jf 5 (by omega) (by omega)]; exact g, by rw [jf 6 (by omega) (by omega)]; exact i, by rw [jf 7 (by omega) (by omega)]; exact j⟩ (by rw [J1m, st_ne _ _ (by omega), st_same]) ⟨fun k p q => by rw [a3 k q, st_row _ _ p, st_row _ _ p], fun k hk => jf k (by omega) (by omega)⟩
  rw [a1 k hk, st_row _ _ (by omega), st_row _ _ (by omega), show 79 * 0 + k = k by omega]
  exact a.at k hk
theorem s_R_fineV {d : Nat} {B : HP} {I : IM} {Post : Out → HP → Prop} {m : Nat} (hm : oM B m) {z : Int} (hz : z = 0 ∨ z = 1) (p1 : z = 1 → Post (.inl (some (.int (i3 1)))) (wI B (st I m 0 0))) (p0 : z = 0 → Post (.inl (some (.int (i3 0)))) (wI B (st I m 0 1))) : Sp (d + 1) k_X9_isFine [.ref m, .int (i3 (z))] (wI B I) Post := by
  refine Sp_intro md_X9_isFine rfl rfl (fun G hG => ?_)
  have hm0 := hm
  obtain ⟨n1, n2, n3, n4, n5, n6, n7, n8, n9, n10, n11⟩ := hm
  show G 0 [some (.ref m), some (.int (i3 (z)))] [] (wI B I)
  refine q_aload_n hG rfl rfl ?_
  refine q_iload_n hG rfl rfl ?_
  refine q_if_eq hG rfl ⟨by omega, by omega⟩ (fun hc2 => ?_) (fun hc2 => ?_)
  · refine q_iconst (v := 1) hG rfl rfl ?_
    refine q_putI0 hG rfl (by assumption) ?_
    refine q_iload_n hG rfl rfl ?_
    refine q_iret5 hG rfl rfl (by omega) ?_
    have z1 : z = 0 := by omega
    subst z1
    exact p0 rfl
  · refine q_iconst (v := 0) hG rfl rfl ?_
    refine q_goto hG rfl ?_
    refine q_putI0 hG rfl (by assumption) ?_
    refine q_iload_n hG rfl rfl ?_
    refine q_iret5 hG rfl rfl (by omega) ?_
    have z1 : z = 1 := by omega
    subst z1
    exact p1 rfl
theorem s_R_restore {d : Nat} {B : HP} {I : IM} {Post : Out → HP → Prop} {m : Nat} (hm : oM B m) {R : RW} {c : Int} {h : Nat → RW} {sv : Int} {SR : RW} {eo why det cau q : Int} (hM : MSt I m R c h sv SR eo why det cau)  (p1 : sv = 1 → ∀ J : IM, MSt J m SR 0 h sv SR eo why det cau → J m 0 = 0 → mfT I J m → Post (.inl (some (.int (i3 (SR 0))))) (wI B J)) (pE : sv = 0 → Post (.inl (some (.int (i3 0)))) (wI B (st I m 0 1))) : Sp (d + 2) k_X9_restoreSnapshot [.ref m] (wI B I) Post := by
  refine Sp_intro md_X9_restoreSnapshot rfl rfl (fun G hG => ?_)
  have hm0 := hm
  obtain ⟨n1, n2, n3, n4, n5, n6, n7, n8, n9, n10, n11⟩ := hm
  obtain ⟨a, b, e0, e1, f, g, i, j⟩ := hM
  show G 0 [some (.ref m)] [] (wI B I)
  refine q_aload_n hG rfl rfl ?_
  refine q_aload_n hG rfl rfl ?_
  refine q_getI5v (v := sv) hG rfl (by assumption) (e0.1) ?_
  refine q_callV6 hG rfl rfl rfl (by assumption) (s_R_fineV hm0 e0.2 (fun hz => ?_) (fun hz => ?_))
  · refine q_if_ne hG rfl ⟨by omega, by omega⟩ (fun _ => ?_) (fun q => absurd (by decide) q)
    refine q_aload_n hG rfl rfl ?_
    refine q_bipush (v := 9) hG rfl rfl ?_
    refine q_iconst (v := 0) hG rfl rfl ?_
    refine q_callV6 hG rfl rfl rfl (by assumption) (s_R_copies (a := 9) (b := 0) hm0 (by decide) (by decide) (fun J1 a1 a2 a3 => ?_))
    have J1m : J1 m = st I m 0 0 m := a3 m (by omega)
    refine q_aload_n hG rfl rfl ?_
    refine q_iconst (v := 0) hG rfl rfl ?_
    refine q_putI0 hG rfl (by assumption) ?_
    refine q_aload_n hG rfl rfl ?_
    refine q_getR hG rfl (by assumption) (by assumption) ?_
    refine q_iconst (v := 0) hG rfl rfl ?_
    refine q_ialdv (v := SR 0) hG rfl (by assumption) ⟨by omega, by omega, by omega⟩ (by show st J1 m 2 0 (m + 1) 0 = SR 0; rw [st_row _ _ (by omega)]; have z := a1 0 (by omega); rw [st_row _ _ (by omega)] at z; exact z.trans (e1 (by omega) 0 (by omega))) ?_
    refine q_iret0 hG rfl rfl ?_
    first
    | exact pE (by omega)
    | have jf : ∀ k, k ≠ 0 → k ≠ 2 → st J1 m 2 0 m k = I m k := fun k h0 h2 => by rw [st_ne _ _ (by omega), J1m, st_ne _ _ (by omega)]
      have js : ∀ k, 79 ≤ k → st J1 m 2 0 (m + 1) k = I (m + 1) k := fun k hk => by rw [st_row _ _ (by omega), a2 k (by omega), st_row _ _ (by omega)]
      refine p1 (by omega) _ ⟨fun k hk => ?_, ⟨st_same _ _ _ _, by omega, fun z hz => by omega⟩, by rw [jf 3 (by omega) (by omega)]; exact e0, fun z => (e1 z).row (fun k h1 h2 => js k (by omega)), by rw [jf 19 (by omega) (by omega)]; exact f, by rw [jf 5 (by omega) (by omega)]; exact g, by rw [jf 6 (by omega) (by omega)]; exact i, by rw [jf 7 (by omega) (by omega)]; exact j⟩ (by rw [st_ne _ _ (by omega), J1m, st_same]) ⟨fun k p q => by rw [st_row _ _ p, a3 k q, st_row _ _ p], fun k hk => jf k (by omega) (by omega)⟩
      rw [st_row _ _ (by omega), a1 k hk, st_row _ _ (by omega)]
      exact e1 (by omega) k hk
  · refine q_if_ne hG rfl ⟨by omega, by omega⟩ (fun q => absurd q (by decide)) (fun _ => ?_)
    refine q_iconst (v := 0) hG rfl rfl ?_
    refine q_iret0 hG rfl rfl ?_
    first
    | exact pE (by omega)
    | have jf : ∀ k, k ≠ 0 → k ≠ 2 → st J1 m 2 0 m k = I m k := fun k h0 h2 => by rw [st_ne _ _ (by omega), J1m, st_ne _ _ (by omega)]
      have js : ∀ k, 79 ≤ k → st J1 m 2 0 (m + 1) k = I (m + 1) k := fun k hk => by rw [st_row _ _ (by omega), a2 k (by omega), st_row _ _ (by omega)]
      refine p1 (by omega) _ ⟨fun k hk => ?_, ⟨st_same _ _ _ _, by omega, fun z hz => by omega⟩, by rw [jf 3 (by omega) (by omega)]; exact e0, fun z => (e1 z).row (fun k h1 h2 => js k (by omega)), by rw [jf 19 (by omega) (by omega)]; exact f, by rw [jf 5 (by omega) (by omega)]; exact g, by rw [jf 6 (by omega) (by omega)]; exact i, by rw [jf 7 (by omega) (by omega)]; exact j⟩ (by rw [st_ne _ _ (by omega), J1m, st_same]) ⟨fun k p q => by rw [st_row _ _ p, a3 k q, st_row _ _ p], fun k hk => jf k (by omega) (by omega)⟩
      rw [st_row _ _ (by omega), a1 k hk, st_row _ _ (by omega)]
      exact e1 (by omega) k hk
