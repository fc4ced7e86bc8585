/-! the reference: peace, told -/
theorem fp_one {R : RW} {b c : Nat → Int} (hb : fpR R b) (hc : fpR R c) : ∀ k, k < (R 0).toNat → b k = c k := by
  apply Classical.byContradiction
  intro hn
  have q : ∀ n : Nat, n ≤ (R 0).toNat → ∀ k, k < n → b k = c k := fun n => by
    induction n with
    | zero => intro _ k hk; omega
    | succ n ih =>
      intro hn2 k hk
      have e := ih (by omega)
      by_cases z : k = n
      · rw [z]
        by_cases h1 : b n < c n
        · exact absurd ⟨n, by omega, h1, e⟩ (hc.2 b hb.1)
        · by_cases h2 : c n < b n
          · exact absurd ⟨n, by omega, h2, fun j hj => (e j hj).symm⟩ (hb.2 c hc.1)
          · omega
      · exact e k (by omega)
  exact hn (q _ (Nat.le_refl _))
theorem pos_iff {q : Int} {R : RW} (hW : WfR q R) {x y u v : Nat} (hx : x < (R 0).toNat) (hy : y < (R 0).toNat) : posR R x u y v ↔ ∃ p, slR R p ∧ p x = u ∧ p y = v := by
  refine ⟨fun ⟨b, h1, h2, h3⟩ => ⟨_, (pe_sl hW h1).1, ?_, ?_⟩, fun ⟨p, h1, h2, h3⟩ => ⟨_, sl_pe hW h1, ?_, ?_⟩⟩
  · show (b x).toNat = u; omega
  · show (b y).toNat = v; omega
  · unfold hgt; rw [if_pos hx, h2]
  · unfold hgt; rw [if_pos hy, h3]
theorem s_R_peaceHeight {d : Nat} {B : HP} {I : IM} {Post : Out → HP → Prop} {m : Nat} (hm : oM B m) {R : RW} (hR0 : ∀ j, j < 79 → I (m + 1) j = R j) {q : Int} (hW : WfR q R) {Js : Nat → Nat → Int64} (hv : vdD (domJ Js m 0)) {x : Int} (hx : r32 x) (pE : ¬ (0 ≤ x ∧ x < R 0) → ∀ J : IM, sth I J m → J m 0 = 1 → Post (.inl (some (.int (i3 (0))))) (wI (wL B Js) J)) (p1 : 0 ≤ x ∧ x < R 0 → ∀ Ls, jfr m Js Ls → vdD (domJ Ls m 0) → ∀ b, fpR R b → ∀ J : IM, sth I J m → J m 0 = 0 → Post (.inl (some (.int (i3 (b x.toNat))))) (wI (wL B Ls) J)) (p0 : 0 ≤ x ∧ x < R 0 → ∀ Ls, jfr m Js Ls → vdD (domJ Ls m 0) → (∀ b, ¬ peS R (ptR R) b) → ∀ J : IM, sth I J m → J m 0 = 2 → Post (.inl (some (.int (i3 (0))))) (wI (wL B Ls) J)) : Sp (d + 20) k_X9_peaceHeight [.ref m, .int (i3 (x))] (wI (wL B Js) I) Post := by
  refine Sp_intro md_X9_peaceHeight rfl rfl (fun G hG => ?_)
  have hm0 := hm
  obtain ⟨n1, n2, n3, n4, n5, n6, n7, n8, n9, n10, n11⟩ := hm
  have hmL : ∀ Js, oM (wL B Js) m := fun _ => hm0
  have hW0 := hW
  obtain ⟨w0, w1, w2, w3, w4, wd, wc⟩ := hW
  have hd0 : (R 0).toNat ≤ 6 := by omega
  have hRs : ∀ z : Int, ∀ j, j < 79 → st I m 0 z (m + 1) j = R j := fun z j hj => by rw [st_row _ _ (by omega)]; exact hR0 j hj
  show G 0 [some (.ref m), some (.int (i3 (x)))] [] (wI (wL B Js) I)
  refine q_aload_n hG rfl rfl ?_
  refine q_aload_n hG rfl rfl ?_
  refine q_iload_n hG rfl rfl ?_
  refine q_callV6 hG rfl rfl rfl (by assumption) (s_R_isDoor (I := I) (hmL _) hx (by rw [hR0 0 (by omega)]; exact w0) (fun hd => ?_) (fun hd => ?_))
  · rw [hR0 0 (by omega)] at hd
    refine q_if_ne hG rfl ⟨by omega, by omega⟩ (fun _ => ?_) (fun q => absurd (by decide) q)
    refine q_aload_n hG rfl rfl ?_
    refine q_callV6 hG rfl rfl rfl (by assumption) (s_R_makesPeace hm0 hR0 hW0 hv (fun Ls hh j1 j2 j3 j4 => ?_) (fun Ls j1 j2 j3 => ?_))
    · have hf := j3 x.toNat (by omega)
      have hx9 : ∀ j, bt (domJ Ls m 0 x.toNat) j = true ↔ j = hh x.toNat := hf.2
      have hne9 : domJ Ls m 0 x.toNat ≠ 0 := fun z => by
        have a := (hx9 _).mpr rfl
        rw [z, bt_zero] at a
        exact absurd a (by decide)
      refine q_if_ne hG rfl ⟨by omega, by omega⟩ (fun _ => ?_) (fun q => absurd (by decide) q)
      refine q_iconst (v := 0) hG rfl rfl ?_
      refine q_putI0 hG rfl (by assumption) ?_
      refine q_aload_n hG rfl rfl ?_
      refine q_getI0v (v := 0) hG rfl (by assumption) (st_same _ _ _ _) ?_
      refine q_if_ne hG rfl ⟨by omega, by omega⟩ (fun q => absurd q (by decide)) (fun _ => ?_)
      refine q_aload_n hG rfl rfl ?_
      refine q_getR hG rfl (by assumption) (by assumption) ?_
      refine q_iload_n hG rfl rfl ?_
      refine q_laldv (v := domJ Ls m 0 x.toNat) hG rfl (by assumption) ⟨by omega, by omega, by omega⟩ (congrArg (Ls (m + 2)) (by omega)) ?_
      refine q_callS0 hG rfl rfl rfl (s_R_low (v := domJ Ls m 0 x.toNat) (j2 _ (by omega)) hne9 (fun k k1 k2 k3 => ?_))
      have ek := (hx9 k).mp k2
      refine q_goto hG rfl ?_
      refine q_iret0 hG rfl rfl ?_
      have eb : hgt R hh x.toNat = (k : Int) := by
        unfold hgt
        rw [if_pos (by omega), ek]
      rw [← eb]
      exact p1 hd Ls j1 j2 _ j4 _ (((sth.refl I m).t _).t _) (st_same _ _ _ _)
    · refine q_if_ne hG rfl ⟨by omega, by omega⟩ (fun q => absurd q (by decide)) (fun _ => ?_)
      refine q_iconst (v := 2) hG rfl rfl ?_
      refine q_goto hG rfl ?_
      refine q_putI0 hG rfl (by assumption) ?_
      refine q_aload_n hG rfl rfl ?_
      refine q_getI0v (v := 2) hG rfl (by assumption) (st_same _ _ _ _) ?_
      refine q_if_ne hG rfl ⟨by omega, by omega⟩ (fun _ => ?_) (fun q => absurd (by decide) q)
      refine q_iconst (v := 0) hG rfl rfl ?_
      refine q_iret0 hG rfl rfl ?_
      exact p0 hd Ls j1 j2 j3 _ (((sth.refl I m).t _).t _) (st_same _ _ _ _)
  · rw [hR0 0 (by omega)] at hd
    refine q_if_ne hG rfl ⟨by omega, by omega⟩ (fun q => absurd q (by decide)) (fun _ => ?_)
    refine q_iconst (v := 1) hG rfl rfl ?_
    refine q_goto hG rfl ?_
    refine q_putI0 hG rfl (by assumption) ?_
    refine q_aload_n hG rfl rfl ?_
    refine q_getI0v (v := 1) hG rfl (by assumption) (st_same _ _ _ _) ?_
    refine q_if_ne hG rfl ⟨by omega, by omega⟩ (fun _ => ?_) (fun q => absurd (by decide) q)
    refine q_iconst (v := 0) hG rfl rfl ?_
    refine q_iret0 hG rfl rfl ?_
    exact pE hd _ ((sth.refl I m).t _) (st_same _ _ _ _)
theorem s_R_peaceSum {d : Nat} {B : HP} {I : IM} {Post : Out → HP → Prop} {m : Nat} (hm : oM B m) {R : RW} (hR0 : ∀ j, j < 79 → I (m + 1) j = R j) {q : Int} (hW : WfR q R) {Js : Nat → Nat → Int64} (hv : vdD (domJ Js m 0))  (p1 : ∀ Ls, jfr m Js Ls → vdD (domJ Ls m 0) → ∀ b, fpR R b → ∀ J : IM, sth I J m → J m 0 = 0 → Post (.inl (some (.int (i3 (sm b (R 0).toNat))))) (wI (wL B Ls) J)) (p0 : ∀ Ls, jfr m Js Ls → vdD (domJ Ls m 0) → (∀ b, ¬ peS R (ptR R) b) → ∀ J : IM, sth I J m → J m 0 = 1 → Post (.inl (some (.int (i3 (0))))) (wI (wL B Ls) J)) : Sp (d + 20) k_X9_peaceSum [.ref m] (wI (wL B Js) I) Post := by
  refine Sp_intro md_X9_peaceSum rfl rfl (fun G hG => ?_)
  have hm0 := hm
  obtain ⟨n1, n2, n3, n4, n5, n6, n7, n8, n9, n10, n11⟩ := hm
  have hmL : ∀ Js, oM (wL B Js) m := fun _ => hm0
  have hW0 := hW
  obtain ⟨w0, w1, w2, w3, w4, wd, wc⟩ := hW
  have hd0 : (R 0).toNat ≤ 6 := by omega
  have hRs : ∀ z : Int, ∀ j, j < 79 → st I m 0 z (m + 1) j = R j := fun z j hj => by rw [st_row _ _ (by omega)]; exact hR0 j hj
  have lp : ∀ (mz : Nat) (k : Nat) (s : Int) (z : Int) (Ls : Nat → Nat → Int64) (hh : Nat → Nat), (R 0).toNat - k = mz → k ≤ (R 0).toNat → z = 0 ∨ z = 1 → jfr m Js Ls → vdD (domJ Ls m 0) → (z = 1 → s = sm (fun k => (hh k : Int)) k ∧ (∀ k, k < (R 0).toNat → hh k ≤ 40 ∧ ∀ j, bt (domJ Ls m 0 k) j = true ↔ j = hh k) ∧ fpR R (hgt R hh)) → (z = 0 → (∀ b, ¬ peS R (ptR R) b)) → G 9 [some (.ref m), some (.int (i3 s)), some (.int (i3 z)), some (.int (i3 (k : Int)))] [] (wI (wL B Ls) (st I m 0 0)) := by
    intro mz
    induction mz using Nat.strongRecOn with
    | ind mz ih =>
      intro k s z Ls hh hme hk hz j1 j2 hz1 hz0
      refine q_iload_n hG rfl rfl ?_
      refine q_aload_n hG rfl rfl ?_
      refine q_getR hG rfl (by assumption) (by assumption) ?_
      refine q_iconst (v := 0) hG rfl rfl ?_
      refine q_ialdv (v := R 0) hG rfl (by assumption) ⟨by omega, by omega, by omega⟩ (hRs 0 0 (by omega)) ?_
      refine q_icmp_ge hG rfl ⟨by omega, by omega⟩ ⟨by omega, by omega⟩ (fun hc16 => ?_) (fun hc16 => ?_)
      · refine q_aload_n hG rfl rfl ?_
        refine q_iload_n hG rfl rfl ?_
        refine q_callV6 hG rfl rfl rfl (by assumption) (s_R_fineV (I := st I m 0 0) (hmL _) hz (fun z1 => ?_) (fun z1 => ?_))
        · refine q_if_eq hG rfl ⟨by omega, by omega⟩ (fun q => absurd q (by decide)) (fun _ => ?_)
          refine q_iload_n hG rfl rfl ?_
          refine q_goto hG rfl ?_
          refine q_iret0 hG rfl rfl ?_
          have ek : (R 0).toNat = k := by omega
          obtain ⟨a1, a2, a3⟩ := hz1 z1
          have es : s = sm (hgt R hh) (R 0).toNat := by
            rw [a1, ek]
            refine sm_congr k (fun j hj => ?_)
            unfold hgt
            rw [if_pos (by omega)]
          rw [es]
          exact p1 Ls j1 j2 _ a3 _ (((sth.refl I m).t _).t _) (st_same _ _ _ _)
        · refine q_if_eq hG rfl ⟨by omega, by omega⟩ (fun _ => ?_) (fun q => absurd (by decide) q)
          refine q_iconst (v := 0) hG rfl rfl ?_
          refine q_iret0 hG rfl rfl ?_
          exact p0 Ls j1 j2 (hz0 z1) _ (((sth.refl I m).t _).t _) (st_same _ _ _ _)
      · refine q_iload_n hG rfl rfl ?_
        refine q_if_eq hG rfl ⟨by omega, by omega⟩ (fun hc20 => ?_) (fun hc20 => ?_)
        · refine q_aload_n hG rfl rfl ?_
          refine q_iload_n hG rfl rfl ?_
          refine q_callV6 hG rfl rfl rfl (by assumption) (s_R_fineV (I := st I m 0 0) (hmL _) hz (fun z1 => ?_) (fun z1 => ?_))
          · refine q_if_eq hG rfl ⟨by omega, by omega⟩ (fun q => absurd q (by decide)) (fun _ => ?_)
            refine q_iload_n hG rfl rfl ?_
            refine q_goto hG rfl ?_
            refine q_iret0 hG rfl rfl ?_
            exfalso; omega
          · refine q_if_eq hG rfl ⟨by omega, by omega⟩ (fun _ => ?_) (fun q => absurd (by decide) q)
            refine q_iconst (v := 0) hG rfl rfl ?_
            refine q_iret0 hG rfl rfl ?_
            exact p0 Ls j1 j2 (hz0 z1) _ (((sth.refl I m).t _).t _) (st_same _ _ _ _)
        · obtain ⟨hs9, hf9, -⟩ := hz1 (by omega)
          have hf := hf9 k (by omega)
          have hx9 : ∀ j, bt (domJ Ls m 0 k) j = true ↔ j = hh k := hf.2
          have hne9 : domJ Ls m 0 k ≠ 0 := fun z => by
            have a := (hx9 _).mpr rfl
            rw [z, bt_zero] at a
            exact absurd a (by decide)
          refine q_iload_n hG rfl rfl ?_
          refine q_aload_n hG rfl rfl ?_
          refine q_getR hG rfl (by assumption) (by assumption) ?_
          refine q_iload_n hG rfl rfl ?_
          refine q_laldv (v := domJ Ls m 0 k) hG rfl (by assumption) ⟨by omega, by omega, by omega⟩ (congrArg (Ls (m + 2)) (by omega)) ?_
          refine q_callS0 hG rfl rfl rfl (s_R_low (v := domJ Ls m 0 k) (j2 _ (by omega)) hne9 (fun l l1 l2 l3 => ?_))
          have el := (hx9 l).mp l2
          refine q_iadd hG rfl ?_
          refine q_istore_n hG rfl rfl ?_
          refine q_iinc (c := 1) hG rfl rfl rfl rfl ?_
          refine q_goto hG rfl ?_
          refine ih _ (by omega) (k + 1) _ z Ls hh rfl (by omega) hz j1 j2 (fun q => ⟨?_, (hz1 q).2⟩) hz0
          show s + (l : Int) = sm (fun k => (hh k : Int)) k + (hh k : Int)
          rw [(hz1 q).1, el]
  show G 0 [some (.ref m), none, none, none] [] (wI (wL B Js) I)
  refine q_iconst (v := 0) hG rfl rfl ?_
  refine q_istore_n hG rfl rfl ?_
  refine q_aload_n hG rfl rfl ?_
  refine q_callV6 hG rfl rfl rfl (by assumption) (s_R_makesPeace hm0 hR0 hW0 hv (fun Ls hh j1 j2 j3 j4 => ?_) (fun Ls j1 j2 j3 => ?_))
  · refine q_istore_n hG rfl rfl ?_
    refine q_iconst (v := 0) hG rfl rfl ?_
    refine q_istore_n hG rfl rfl ?_
    exact lp _ 0 0 1 Ls hh rfl (by omega) (Or.inr rfl) j1 j2 (fun _ => ⟨rfl, j3, j4⟩) (fun q => absurd q (by decide))
  · refine q_istore_n hG rfl rfl ?_
    refine q_iconst (v := 0) hG rfl rfl ?_
    refine q_istore_n hG rfl rfl ?_
    exact lp _ 0 0 0 Ls (fun _ => 0) rfl (by omega) (Or.inl rfl) j1 j2 (fun q => absurd q (by decide)) (fun _ => j3)
theorem s_R_arePossible {d : Nat} {B : HP} {I : IM} {Post : Out → HP → Prop} {m : Nat} (hm : oM B m) {R : RW} (hR0 : ∀ j, j < 79 → I (m + 1) j = R j) {q : Int} (hW : WfR q R) {Js : Nat → Nat → Int64} (hv : vdD (domJ Js m 0)) {xa ya ha ga : Int} (hvx : r32 xa) (hvy : r32 ya) (hvh : r32 ha) (hvg : r32 ga) (pD : ¬ ((0 ≤ xa ∧ xa < R 0) ∧ (0 ≤ ya ∧ ya < R 0)) → ∀ J : IM, sth I J m → J m 0 = 1 → Post (.inl (some (.int (i3 (0))))) (wI (wL B Js) J)) (pA : (0 ≤ xa ∧ xa < R 0) ∧ (0 ≤ ya ∧ ya < R 0) → ¬ ((0 ≤ ha ∧ ha ≤ 40) ∧ (0 ≤ ga ∧ ga ≤ 40)) → ∀ J : IM, sth I J m → J m 0 = 2 → Post (.inl (some (.int (i3 (0))))) (wI (wL B Js) J)) (p1 : (0 ≤ xa ∧ xa < R 0) ∧ (0 ≤ ya ∧ ya < R 0) → ((0 ≤ ha ∧ ha ≤ 40) ∧ (0 ≤ ga ∧ ga ≤ 40)) → posR R xa.toNat ha ya.toNat ga → ∀ Ls, jfr m Js Ls → vdD (domJ Ls m 0) → ∀ J : IM, sth I J m → J m 0 = 0 → Post (.inl (some (.int (i3 (1))))) (wI (wL B Ls) J)) (p0 : (0 ≤ xa ∧ xa < R 0) ∧ (0 ≤ ya ∧ ya < R 0) → ((0 ≤ ha ∧ ha ≤ 40) ∧ (0 ≤ ga ∧ ga ≤ 40)) → ¬ posR R xa.toNat ha ya.toNat ga → ∀ Ls, jfr m Js Ls → vdD (domJ Ls m 0) → ∀ J : IM, sth I J m → J m 0 = 0 → Post (.inl (some (.int (i3 (0))))) (wI (wL B Ls) J)) : Sp (d + 18) k_X9_arePossible [.ref m, .int (i3 (xa)), .int (i3 (ha)), .int (i3 (ya)), .int (i3 (ga))] (wI (wL B Js) I) Post := by
  refine Sp_intro md_X9_arePossible rfl rfl (fun G hG => ?_)
  have hm0 := hm
  obtain ⟨n1, n2, n3, n4, n5, n6, n7, n8, n9, n10, n11⟩ := hm
  have hmL : ∀ Js, oM (wL B Js) m := fun _ => hm0
  have hW0 := hW
  obtain ⟨w0, w1, w2, w3, w4, wd, wc⟩ := hW
  have hd0 : (R 0).toNat ≤ 6 := by omega
  have hRs : ∀ z : Int, ∀ j, j < 79 → st I m 0 z (m + 1) j = R j := fun z j hj => by rw [st_row _ _ (by omega)]; exact hR0 j hj
  have hS : solP B (st I m 0 0) R m (0 + 1) 16 := s_R_solv hm0 (hRs 0) hW0 6 1 rfl
  show G 0 [some (.ref m), some (.int (i3 (xa))), some (.int (i3 (ha))), some (.int (i3 (ya))), some (.int (i3 (ga)))] [] (wI (wL B Js) I)
  refine q_aload_n hG rfl rfl ?_
  refine q_aload_n hG rfl rfl ?_
  refine q_iload_n hG rfl rfl ?_
  refine q_callV6 hG rfl rfl rfl (by assumption) (s_R_isDoor (I := I) (hmL _) hvx (by rw [hR0 0 (by omega)]; exact w0) (fun hx => ?_) (fun hx => ?_))
  · rw [hR0 0 (by omega)] at hx
    refine q_if_eq hG rfl ⟨by omega, by omega⟩ (fun q => absurd q (by decide)) (fun _ => ?_)
    refine q_aload_n hG rfl rfl ?_
    refine q_iload_n hG rfl rfl ?_
    refine q_callV6 hG rfl rfl rfl (by assumption) (s_R_isDoor (I := I) (hmL _) hvy (by rw [hR0 0 (by omega)]; exact w0) (fun hy => ?_) (fun hy => ?_))
    · rw [hR0 0 (by omega)] at hy
      refine q_if_ne hG rfl ⟨by omega, by omega⟩ (fun _ => ?_) (fun q => absurd (by decide) q)
      refine q_iload_n hG rfl rfl ?_
      refine q_iconst (v := 0) hG rfl rfl ?_
      refine q_bipush (v := 40) hG rfl rfl ?_
      refine q_callS0 hG rfl rfl rfl (s_R_in hvh r32_0 ⟨by omega, by omega⟩ (fun hh => ?_) (fun hh => ?_))
      · refine q_if_eq hG rfl ⟨by omega, by omega⟩ (fun q => absurd q (by decide)) (fun _ => ?_)
        refine q_iload hG rfl rfl ?_
        refine q_iconst (v := 0) hG rfl rfl ?_
        refine q_bipush (v := 40) hG rfl rfl ?_
        refine q_callS0 hG rfl rfl rfl (s_R_in hvg r32_0 ⟨by omega, by omega⟩ (fun hg => ?_) (fun hg => ?_))
        · refine q_if_ne hG rfl ⟨by omega, by omega⟩ (fun _ => ?_) (fun q => absurd (by decide) q)
          refine q_iconst (v := 0) hG rfl rfl ?_
          refine q_putI0 hG rfl (by assumption) ?_
          refine q_aload_n hG rfl rfl ?_
          refine q_getI0v (v := 0) hG rfl (by assumption) (st_same _ _ _ _) ?_
          refine q_if_eq hG rfl ⟨by omega, by omega⟩ (fun _ => ?_) (fun q => absurd (by decide) q)
          obtain ⟨xn, rfl⟩ : ∃ xn : Nat, xa = (xn : Int) := ⟨xa.toNat, by omega⟩
          obtain ⟨yn, rfl⟩ : ∃ yn : Nat, ya = (yn : Int) := ⟨ya.toNat, by omega⟩
          obtain ⟨hn, rfl⟩ : ∃ hn : Nat, ha = (hn : Int) := ⟨ha.toNat, by omega⟩
          obtain ⟨gn, rfl⟩ : ∃ gn : Nat, ga = (gn : Int) := ⟨ga.toNat, by omega⟩
          refine q_aload_n hG rfl rfl ?_
          refine q_callV6 hG rfl rfl rfl (by assumption) (s_R_opens (I := st I m 0 0) hm0 (hRs 0) hW0 hv (fun Ks j1 j2 j3 => ?_))
          have eD : domJ (up2 Ks (m + 2) (xn : Int).toNat (opD R xn &&& (1 <<< shA (hn : Int)))) m 0 = updD (domJ Ks m 0) xn (domJ Ks m 0 xn &&& (1 <<< shA (hn : Int))) := by
            rw [dom_up (k := xn) (by omega), j3 xn (by omega)]
          have hvU : vdD (domJ (up2 Ks (m + 2) (xn : Int).toNat (opD R xn &&& (1 <<< shA (hn : Int)))) m 0) := by
            rw [eD]
            exact vdD_up j2 (vd_and (j2 _ (by omega)))
          have hz9 := opn_bd (updD (domJ (up2 Ks (m + 2) (xn : Int).toNat (opD R xn &&& (1 <<< shA (hn : Int)))) m 0) yn (domJ (up2 Ks (m + 2) (xn : Int).toNat (opD R xn &&& (1 <<< shA (hn : Int)))) m 0 yn &&& (1 <<< shA (gn : Int)))) (R 0).toNat
          have ebit : ∀ (n j : Nat), n ≤ 40 → (bt (1 <<< shA (n : Int)) j = true ↔ j = n) := fun n j hn9 => by
            rw [bt_bit ⟨by omega, by omega⟩, decide_eq_true_iff]
            omega
          have hsX : ∀ p, solD (cnR R) (R 1).toNat (R 0).toNat (domJ (up2 Ks (m + 2) (xn : Int).toNat (opD R xn &&& (1 <<< shA (hn : Int)))) m 0) p ↔ slR R p ∧ p xn = hn := fun p => by
            rw [eD, solD_and (by omega), sl_dom j3, ebit hn _ (by omega)]
          have hsl : ∀ p, solD (cnR R) (R 1).toNat (R 0).toNat (updD (domJ (up2 Ks (m + 2) (xn : Int).toNat (opD R xn &&& (1 <<< shA (hn : Int)))) m 0) yn (domJ (up2 Ks (m + 2) (xn : Int).toNat (opD R xn &&& (1 <<< shA (hn : Int)))) m 0 yn &&& (1 <<< shA (gn : Int)))) p ↔ (slR R p ∧ p xn = hn) ∧ p yn = gn := fun p => by
            rw [solD_and (by omega), hsX p, ebit gn _ (by omega)]
          have hpo := pos_iff hW0 (x := xn) (y := yn) (u := hn) (v := gn) (by omega) (by omega)
          have hxn : xn < (R 0).toNat := by omega
          have hyn : yn < (R 0).toNat := by omega
          have ejx : domJ Ks m 0 xn = opD R xn := j3 xn hxn
          refine q_aload_n hG rfl rfl ?_
          refine q_getR hG rfl (by assumption) (by assumption) ?_
          refine q_iload_n hG rfl rfl ?_
          refine q_dup2 hG rfl rfl rfl ?_
          refine q_laldv (v := opD R xn) hG rfl (by assumption) ⟨by omega, by omega, by omega⟩ (by rw [← j3 xn (by omega)]; exact congrArg (Ks (m + 2)) (by omega)) ?_
          refine q_lconst1 hG rfl ?_
          refine q_iload_n hG rfl rfl ?_
          refine q_lshl hG rfl ?_
          refine q_land hG rfl ?_
          refine q_lastL hG rfl (by assumption) ⟨by omega, by omega, by omega⟩ ?_
          refine q_aload_n hG rfl rfl ?_
          refine q_getR hG rfl (by assumption) (by assumption) ?_
          refine q_iload_n hG rfl rfl ?_
          refine q_laldv (v := opD R xn &&& (1 <<< shA (hn : Int))) hG rfl (by assumption) ⟨by omega, by omega, by omega⟩ (if_pos ⟨rfl, rfl⟩) ?_
          refine q_lconst0 hG rfl ?_
          refine q_lcmpv hG rfl ?_
          refine q_if_eq hG rfl (lgc_r _ _) (fun hc83 => ?_) (fun hc83 => ?_)
          · refine q_iconst (v := 0) hG rfl rfl ?_
            refine q_iret5 hG rfl rfl (by decide) ?_
            first
            | exact pD (fun z => hx z.1) _ ((sth.refl I m).t _) (st_same _ _ _ _)
            | exact pD (fun z => hy z.2) _ ((sth.refl I m).t _) (st_same _ _ _ _)
            | exact pA ⟨hx, hy⟩ (fun z => hh z.1) _ ((sth.refl I m).t _) (st_same _ _ _ _)
            | exact pA ⟨hx, hy⟩ (fun z => hg z.2) _ ((sth.refl I m).t _) (st_same _ _ _ _)
            | exact p0 ⟨hx, hy⟩ ⟨hh, hg⟩ (fun z => by
                obtain ⟨p, h1, h2, h3⟩ := hpo.mp z
                exact g2 hyn p ((hsl p).mpr ⟨⟨h1, h2⟩, h3⟩)) Ls ((j1.up _ _).trans g1.j) (hvU.mv g1) _ ((sth.refl I m).t _) (st_same _ _ _ _)
            | exact p0 ⟨hx, hy⟩ ⟨hh, hg⟩ (fun z => by
                obtain ⟨p, h1, h2, h3⟩ := hpo.mp z
                have a := ((hsX p).mpr ⟨h1, h2⟩).1 xn hxn
                rw [eD, updD_same, ejx, show opD R xn &&& (1 <<< shA (hn : Int)) = 0 from lgc_0.mp hc83, bt_zero] at a
                exact absurd a (by decide)) _ (j1.up _ _) hvU _ ((sth.refl I m).t _) (st_same _ _ _ _)
          · have hneU : ∀ k, k < (R 0).toNat → k ≠ yn → domJ (up2 Ks (m + 2) (xn : Int).toNat (opD R xn &&& (1 <<< shA (hn : Int)))) m 0 k ≠ 0 := fun k hk _ => by
              rw [eD]
              unfold updD
              split
              · rw [j3 xn (by omega)]
                exact fun z => hc83 (lgc_0.mpr z)
              · rw [j3 k hk]
                exact opD_ne hW0 (by omega)
            refine q_aload_n hG rfl rfl ?_
            refine q_iconst (v := 0) hG rfl rfl ?_
            refine q_iload_n hG rfl rfl ?_
            refine q_lconst1 hG rfl ?_
            refine q_iload hG rfl rfl ?_
            refine q_lshl hG rfl ?_
            refine q_callV6 hG rfl rfl rfl (by assumption) (s_R_solvW (n := 16) (x := yn) (v := 1 <<< shA (gn : Int)) (lev := 0) (Js := (up2 Ks (m + 2) (xn : Int).toNat (opD R xn &&& (1 <<< shA (hn : Int))))) hm0 hd0 (by omega) (by omega) hvU hS hneU (by omega) (fun Ls g1 g2 => ?_) (fun Ls g1 g2 => ?_))
            · refine q_if_eq hG rfl ⟨by omega, by omega⟩ (fun q => absurd q (by decide)) (fun _ => ?_)
              refine q_iconst (v := 1) hG rfl rfl ?_
              refine q_goto hG rfl ?_
              refine q_iret5 hG rfl rfl (by decide) ?_
              obtain ⟨p, hp⟩ := g2
              have hp := (hsl p).mp hp
              exact p1 ⟨hx, hy⟩ ⟨hh, hg⟩ (hpo.mpr ⟨p, hp.1.1, hp.1.2, hp.2⟩) Ls ((j1.up _ _).trans g1.j) (hvU.mv g1) _ ((sth.refl I m).t _) (st_same _ _ _ _)
            · refine q_if_eq hG rfl ⟨by omega, by omega⟩ (fun _ => ?_) (fun q => absurd (by decide) q)
              refine q_iconst (v := 0) hG rfl rfl ?_
              refine q_iret5 hG rfl rfl (by decide) ?_
              first
              | exact pD (fun z => hx z.1) _ ((sth.refl I m).t _) (st_same _ _ _ _)
              | exact pD (fun z => hy z.2) _ ((sth.refl I m).t _) (st_same _ _ _ _)
              | exact pA ⟨hx, hy⟩ (fun z => hh z.1) _ ((sth.refl I m).t _) (st_same _ _ _ _)
              | exact pA ⟨hx, hy⟩ (fun z => hg z.2) _ ((sth.refl I m).t _) (st_same _ _ _ _)
              | exact p0 ⟨hx, hy⟩ ⟨hh, hg⟩ (fun z => by
                  obtain ⟨p, h1, h2, h3⟩ := hpo.mp z
                  exact g2 hyn p ((hsl p).mpr ⟨⟨h1, h2⟩, h3⟩)) Ls ((j1.up _ _).trans g1.j) (hvU.mv g1) _ ((sth.refl I m).t _) (st_same _ _ _ _)
              | exact p0 ⟨hx, hy⟩ ⟨hh, hg⟩ (fun z => by
                  obtain ⟨p, h1, h2, h3⟩ := hpo.mp z
                  have a := ((hsX p).mpr ⟨h1, h2⟩).1 xn hxn
                  rw [eD, updD_same, ejx, show opD R xn &&& (1 <<< shA (hn : Int)) = 0 from lgc_0.mp hc83, bt_zero] at a
                  exact absurd a (by decide)) _ (j1.up _ _) hvU _ ((sth.refl I m).t _) (st_same _ _ _ _)
        · refine q_if_ne hG rfl ⟨by omega, by omega⟩ (fun q => absurd q (by decide)) (fun _ => ?_)
          refine q_iconst (v := 2) hG rfl rfl ?_
          refine q_goto hG rfl ?_
          refine q_putI0 hG rfl (by assumption) ?_
          refine q_aload_n hG rfl rfl ?_
          refine q_getI0v (v := 2) hG rfl (by assumption) (st_same _ _ _ _) ?_
          refine q_if_eq hG rfl ⟨by omega, by omega⟩ (fun q => absurd q (by decide)) (fun _ => ?_)
          refine q_iconst (v := 0) hG rfl rfl ?_
          refine q_iret5 hG rfl rfl (by decide) ?_
          first
          | exact pD (fun z => hx z.1) _ ((sth.refl I m).t _) (st_same _ _ _ _)
          | exact pD (fun z => hy z.2) _ ((sth.refl I m).t _) (st_same _ _ _ _)
          | exact pA ⟨hx, hy⟩ (fun z => hh z.1) _ ((sth.refl I m).t _) (st_same _ _ _ _)
          | exact pA ⟨hx, hy⟩ (fun z => hg z.2) _ ((sth.refl I m).t _) (st_same _ _ _ _)
          | exact p0 ⟨hx, hy⟩ ⟨hh, hg⟩ (fun z => by
              obtain ⟨p, h1, h2, h3⟩ := hpo.mp z
              exact g2 hyn p ((hsl p).mpr ⟨⟨h1, h2⟩, h3⟩)) Ls ((j1.up _ _).trans g1.j) (hvU.mv g1) _ ((sth.refl I m).t _) (st_same _ _ _ _)
          | exact p0 ⟨hx, hy⟩ ⟨hh, hg⟩ (fun z => by
              obtain ⟨p, h1, h2, h3⟩ := hpo.mp z
              have a := ((hsX p).mpr ⟨h1, h2⟩).1 xn hxn
              rw [eD, updD_same, ejx, show opD R xn &&& (1 <<< shA (hn : Int)) = 0 from lgc_0.mp hc83, bt_zero] at a
              exact absurd a (by decide)) _ (j1.up _ _) hvU _ ((sth.refl I m).t _) (st_same _ _ _ _)
      · refine q_if_eq hG rfl ⟨by omega, by omega⟩ (fun _ => ?_) (fun q => absurd (by decide) q)
        refine q_iconst (v := 2) hG rfl rfl ?_
        refine q_goto hG rfl ?_
        refine q_putI0 hG rfl (by assumption) ?_
        refine q_aload_n hG rfl rfl ?_
        refine q_getI0v (v := 2) hG rfl (by assumption) (st_same _ _ _ _) ?_
        refine q_if_eq hG rfl ⟨by omega, by omega⟩ (fun q => absurd q (by decide)) (fun _ => ?_)
        refine q_iconst (v := 0) hG rfl rfl ?_
        refine q_iret5 hG rfl rfl (by decide) ?_
        first
        | exact pD (fun z => hx z.1) _ ((sth.refl I m).t _) (st_same _ _ _ _)
        | exact pD (fun z => hy z.2) _ ((sth.refl I m).t _) (st_same _ _ _ _)
        | exact pA ⟨hx, hy⟩ (fun z => hh z.1) _ ((sth.refl I m).t _) (st_same _ _ _ _)
        | exact pA ⟨hx, hy⟩ (fun z => hg z.2) _ ((sth.refl I m).t _) (st_same _ _ _ _)
        | exact p0 ⟨hx, hy⟩ ⟨hh, hg⟩ (fun z => by
            obtain ⟨p, h1, h2, h3⟩ := hpo.mp z
            exact g2 hyn p ((hsl p).mpr ⟨⟨h1, h2⟩, h3⟩)) Ls ((j1.up _ _).trans g1.j) (hvU.mv g1) _ ((sth.refl I m).t _) (st_same _ _ _ _)
        | exact p0 ⟨hx, hy⟩ ⟨hh, hg⟩ (fun z => by
            obtain ⟨p, h1, h2, h3⟩ := hpo.mp z
            have a := ((hsX p).mpr ⟨h1, h2⟩).1 xn hxn
            rw [eD, updD_same, ejx, show opD R xn &&& (1 <<< shA (hn : Int)) = 0 from lgc_0.mp hc83, bt_zero] at a
            exact absurd a (by decide)) _ (j1.up _ _) hvU _ ((sth.refl I m).t _) (st_same _ _ _ _)
    · rw [hR0 0 (by omega)] at hy
      refine q_if_ne hG rfl ⟨by omega, by omega⟩ (fun q => absurd q (by decide)) (fun _ => ?_)
      refine q_iconst (v := 1) hG rfl rfl ?_
      refine q_goto hG rfl ?_
      refine q_putI0 hG rfl (by assumption) ?_
      refine q_aload_n hG rfl rfl ?_
      refine q_getI0v (v := 1) hG rfl (by assumption) (st_same _ _ _ _) ?_
      refine q_if_eq hG rfl ⟨by omega, by omega⟩ (fun q => absurd q (by decide)) (fun _ => ?_)
      refine q_iconst (v := 0) hG rfl rfl ?_
      refine q_iret5 hG rfl rfl (by decide) ?_
      first
      | exact pD (fun z => hx z.1) _ ((sth.refl I m).t _) (st_same _ _ _ _)
      | exact pD (fun z => hy z.2) _ ((sth.refl I m).t _) (st_same _ _ _ _)
      | exact pA ⟨hx, hy⟩ (fun z => hh z.1) _ ((sth.refl I m).t _) (st_same _ _ _ _)
      | exact pA ⟨hx, hy⟩ (fun z => hg z.2) _ ((sth.refl I m).t _) (st_same _ _ _ _)
      | exact p0 ⟨hx, hy⟩ ⟨hh, hg⟩ (fun z => by
          obtain ⟨p, h1, h2, h3⟩ := hpo.mp z
          exact g2 hyn p ((hsl p).mpr ⟨⟨h1, h2⟩, h3⟩)) Ls ((j1.up _ _).trans g1.j) (hvU.mv g1) _ ((sth.refl I m).t _) (st_same _ _ _ _)
      | exact p0 ⟨hx, hy⟩ ⟨hh, hg⟩ (fun z => by
          obtain ⟨p, h1, h2, h3⟩ := hpo.mp z
          have a := ((hsX p).mpr ⟨h1, h2⟩).1 xn hxn
          rw [eD, updD_same, ejx, show opD R xn &&& (1 <<< shA (hn : Int)) = 0 from lgc_0.mp hc83, bt_zero] at a
          exact absurd a (by decide)) _ (j1.up _ _) hvU _ ((sth.refl I m).t _) (st_same _ _ _ _)
  · rw [hR0 0 (by omega)] at hx
    refine q_if_eq hG rfl ⟨by omega, by omega⟩ (fun _ => ?_) (fun q => absurd (by decide) q)
    refine q_iconst (v := 1) hG rfl rfl ?_
    refine q_goto hG rfl ?_
    refine q_putI0 hG rfl (by assumption) ?_
    refine q_aload_n hG rfl rfl ?_
    refine q_getI0v (v := 1) hG rfl (by assumption) (st_same _ _ _ _) ?_
    refine q_if_eq hG rfl ⟨by omega, by omega⟩ (fun q => absurd q (by decide)) (fun _ => ?_)
    refine q_iconst (v := 0) hG rfl rfl ?_
    refine q_iret5 hG rfl rfl (by decide) ?_
    first
    | exact pD (fun z => hx z.1) _ ((sth.refl I m).t _) (st_same _ _ _ _)
    | exact pD (fun z => hy z.2) _ ((sth.refl I m).t _) (st_same _ _ _ _)
    | exact pA ⟨hx, hy⟩ (fun z => hh z.1) _ ((sth.refl I m).t _) (st_same _ _ _ _)
    | exact pA ⟨hx, hy⟩ (fun z => hg z.2) _ ((sth.refl I m).t _) (st_same _ _ _ _)
    | exact p0 ⟨hx, hy⟩ ⟨hh, hg⟩ (fun z => by
        obtain ⟨p, h1, h2, h3⟩ := hpo.mp z
        exact g2 hyn p ((hsl p).mpr ⟨⟨h1, h2⟩, h3⟩)) Ls ((j1.up _ _).trans g1.j) (hvU.mv g1) _ ((sth.refl I m).t _) (st_same _ _ _ _)
    | exact p0 ⟨hx, hy⟩ ⟨hh, hg⟩ (fun z => by
        obtain ⟨p, h1, h2, h3⟩ := hpo.mp z
        have a := ((hsX p).mpr ⟨h1, h2⟩).1 xn hxn
        rw [eD, updD_same, ejx, show opD R xn &&& (1 <<< shA (hn : Int)) = 0 from lgc_0.mp hc83, bt_zero] at a
        exact absurd a (by decide)) _ (j1.up _ _) hvU _ ((sth.refl I m).t _) (st_same _ _ _ _)
