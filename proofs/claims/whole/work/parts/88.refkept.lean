/-! the reference: passes as changes, what is kept -/
theorem ref_trial {I : IM} {m : Nat} {R : RW} {q : Int} (hR0 : ∀ j, j < 79 → I (m + 1) j = R j) (hW : WfR q R) (hq : q ≤ 2000000000) (h10 : I m 10 = 0) : pAg (rfS I m) (ptR R) ∧ rWF I m ∧ okB (rfS I m) ∧ I (m + 1) 1 = R 1 ∧ ∀ p, p < (R 1).toNat → rnI I m p = cnR R p ∧ (rnI I m p).2.1 < 6 ∧ (rnI I m p).2.2.1 < 6 := by
  have w0 := hW.1
  have w1 := hW.2.1
  have w2 := hW.2.2.1
  have hag : pAg (rfS I m) (ptR R) := ⟨fun k hk => ⟨hR0 _ (by omega), hR0 _ (by omega)⟩, h10⟩
  have hn : I (m + 1) 1 = R 1 := hR0 1 (by omega)
  have hc : ∀ (p w : Nat), p < 10 → w < 5 → cR I m p w = R (29 + 5 * p + w) := fun p w h1 h2 => hR0 _ (by omega)
  have hwf : rWF I m := by
    refine ⟨by rw [hn]; exact w1, fun p hp => ?_⟩
    rw [hn] at hp
    obtain ⟨v1, v2, v3, v4, v5, v6, v7⟩ := hW.2.2.2.2.2.2 p hp
    rw [hc p 0 (by omega) (by omega), hc p 1 (by omega) (by omega), hc p 2 (by omega) (by omega), hc p 3 (by omega) (by omega), hc p 4 (by omega) (by omega)]
    have v1 : 0 ≤ R (29 + 5 * p + 0) ∧ R (29 + 5 * p + 0) < R 2 := v1
    exact ⟨⟨v3.1, by omega⟩, ⟨v4.1, by omega⟩, v6, v2, ⟨by omega, by omega⟩, v5⟩
  refine ⟨hag, hwf, okB_ag hag (ptR_ok hW), hn, fun p hp => ?_⟩
  have h6 := rWF_6 hwf p (by rw [hn]; exact hp)
  refine ⟨?_, h6⟩
  unfold rnI cnR
  rw [hc p 1 (by omega) (by omega), hc p 2 (by omega) (by omega), hc p 3 (by omega) (by omega), hc p 4 (by omega) (by omega)]
theorem setB_rm {f : Nat → Int} {R : RW} {s : PT} {dp : Int} (hb : ∀ k, k < 6 → f (5 + 4 * k + 2) = s.1 k ∧ f (5 + 4 * k + 3) = s.2.1 k) (h3 : f 3 = R 3 + dp) (h4 : f 4 = R 4 + s.2.2) (ho : ∀ j, j < 79 → j ≠ 3 → j ≠ 4 → (j < 5 ∨ 29 ≤ j ∨ (j - 5) % 4 < 2) → f j = R j) : ∀ j, j < 79 → f j = setB R s dp j := fun j hj => by
  unfold setB
  by_cases c1 : 5 ≤ j ∧ j < 29 ∧ (j - 5) % 4 = 2
  · rw [if_pos c1, ← (hb ((j - 5) / 4) (by omega)).1]; congr 1; omega
  rw [if_neg c1]
  by_cases c2 : 5 ≤ j ∧ j < 29 ∧ (j - 5) % 4 = 3
  · rw [if_pos c2, ← (hb ((j - 5) / 4) (by omega)).2]; congr 1; omega
  rw [if_neg c2]
  by_cases c3 : j = 3
  · rw [if_pos c3, c3]; exact h3
  rw [if_neg c3]
  by_cases c4 : j = 4
  · rw [if_pos c4, c4]; exact h4
  rw [if_neg c4]
  exact ho j hj c3 c4 (by omega)

theorem s_R_passes {d : Nat} {B : HP} {I : IM} {Post : Out → HP → Prop} {m : Nat} (hm : oM B m) {R : RW} {q : Int} (hR : RepM I m 0 R) (hW : WfR q R) (hq : q ≤ 2000000000)  (p3 : ∀ p : Nat, (paR R 1).2 = some p → ∀ J : IM, J m 8 = 5 → J m 9 = R (29 + 5 * p) → mfr I J m → Post (.inl (some (.int (i3 3)))) (wI B J)) (p0 : (paR R 1).2 = none → ∀ J : IM, RepM J m 0 (setB R (paR R 1).1 1) → J m 4 = (paR R 1).1.2.2 → mfr I J m → Post (.inl (some (.int (i3 0)))) (wI B J)) : Sp (d + 7) k_X9_passes [.ref m] (wI B I) Post := by
  refine Sp_intro md_X9_passes rfl rfl (fun G hG => ?_)
  have hm0 := hm
  obtain ⟨n1, n2, n3, n4, n5, n6, n7, n8, n9, n10, n11⟩ := hm
  have hR0 : ∀ j, j < 79 → I (m + 1) j = R j := hR.at
  have hW0 := hW
  obtain ⟨w0, w1, w2, w3, w4, wd, wc⟩ := hW
  have hJ0 : ∀ j, j < 79 → st I m 10 0 (m + 1) j = R j := fun j hj => by rw [st_row _ _ (by omega)]; exact hR0 j hj
  obtain ⟨hag, hwf, hok, hn0, hcn⟩ := ref_trial hJ0 hW0 hq (st_same _ _ _ _)
  show G 0 [some (.ref m), none] [] (wI B I)
  refine q_aload_n hG rfl rfl ?_
  refine q_iconst (v := 0) hG rfl rfl ?_
  refine q_putI0 hG rfl (by assumption) ?_
  refine q_aload_n hG rfl rfl ?_
  refine q_iconst (v := 0) hG rfl rfl ?_
  refine q_callV6 hG rfl rfl rfl (by assumption) (s_R_goes (wa := 1) hm0 (Or.inr ⟨rfl, rfl⟩) hwf hok (fun J1 e1 e2 hf => ?_) (fun J1 p e1 e1b hf => ?_))
  · rw [hn0] at e1 e2
    obtain ⟨ag, aq⟩ := paM_ag (wa := 1) hcn (R 1).toNat 0 _ _ (by omega) hag
    refine q_istore_n hG rfl rfl ?_
    refine q_iload_n hG rfl rfl ?_
    refine q_if_lt hG rfl ⟨by omega, by omega⟩ (fun _ => ?_) (fun q => absurd (by decide) q)
    refine q_aload_n hG rfl rfl ?_
    refine q_getR hG rfl (by assumption) (by assumption) ?_
    refine q_iconst (v := 3) hG rfl rfl ?_
    refine q_dup2 hG rfl rfl rfl ?_
    refine q_ialdv (v := R 3) hG rfl (by assumption) ⟨by omega, by omega, by omega⟩ (by show J1 (m + 1) 3 = R 3; rw [hf.n 3 (by omega), st_row _ _ (by omega)]; exact hR0 3 (by omega)) ?_
    refine q_iconst (v := 1) hG rfl rfl ?_
    refine q_iadd hG rfl ?_
    refine q_iast hG rfl (by assumption) ⟨by omega, by omega, by omega⟩ ?_
    refine q_aload_n hG rfl rfl ?_
    refine q_getR hG rfl (by assumption) (by assumption) ?_
    refine q_iconst (v := 4) hG rfl rfl ?_
    refine q_dup2 hG rfl rfl rfl ?_
    refine q_ialdv (v := R 4) hG rfl (by assumption) ⟨by omega, by omega, by omega⟩ (by show st J1 (m + 1) 3 _ (m + 1) 4 = R 4; rw [st_ne _ _ (by omega), hf.n 4 (by omega), st_row _ _ (by omega)]; exact hR0 4 (by omega)) ?_
    refine q_aload_n hG rfl rfl ?_
    refine q_getI0v (v := J1 m 10) hG rfl (by assumption) (by rw [st_row _ _ (by omega)]) ?_
    refine q_iadd hG rfl ?_
    refine q_iast hG rfl (by assumption) ⟨by omega, by omega, by omega⟩ ?_
    refine q_aload_n hG rfl rfl ?_
    refine q_aload_n hG rfl rfl ?_
    refine q_getI0v (v := J1 m 10) hG rfl (by assumption) (by rw [st_row _ _ (by omega), st_row _ _ (by omega)]) ?_
    refine q_putI0 hG rfl (by assumption) ?_
    refine q_iconst (v := 0) hG rfl rfl ?_
    refine q_iret0 hG rfl rfl ?_
    have e10 : J1 m 10 = (paR R 1).1.2.2 := by rw [← ag.2]; exact congrArg (fun z => z.2.2) e2
    have i3 : (3 : Int).toNat = 3 := rfl
    have i4 : (4 : Int).toNat = 4 := rfl
    have e0 : ∀ j, j ≠ 3 → j ≠ 4 → (j < 5 ∨ 29 ≤ j ∨ (j - 5) % 4 < 2) → J1 (m + 1) j = I (m + 1) j := fun j a b c => by rw [hf.2.2 j c, st_row _ _ (by omega)]
    refine p0 (by rw [← aq]; exact e1) _ (RepM.of (setB_rm (s := (paR R 1).1) (dp := 1) (fun k hk => ?_) ?_ ?_ (fun j hj a b c => ?_))) ?_ ?_
    · refine ⟨?_, ?_⟩
      · rw [st_row _ _ (by omega), st_ne _ _ (by omega), st_ne _ _ (by omega)]
        exact (rfS_1 e2 k).trans (ag.1 k hk).1
      · rw [st_row _ _ (by omega), st_ne _ _ (by omega), st_ne _ _ (by omega)]
        exact (rfS_2 e2 k).trans (ag.1 k hk).2
    · rw [st_row _ _ (by omega), st_ne _ _ (by omega), i3, st_same]
    · rw [st_row _ _ (by omega), i4, st_same, e10]
    · rw [st_row _ _ (by omega), st_ne _ _ (by omega), st_ne _ _ (by omega), e0 j a b c]; exact hR0 j hj
    · rw [st_same]; exact e10
    · exact ((((mfr.fld (by omega)).trans hf.m).trans (mfr.cell (by omega))).trans (mfr.cell (by omega))).trans (mfr.fld (by omega))
  · rw [hn0] at e1 e1b
    obtain ⟨ag, aq⟩ := paM_ag (wa := 1) hcn (R 1).toNat 0 _ _ (by omega) hag
    refine q_istore_n hG rfl rfl ?_
    refine q_iload_n hG rfl rfl ?_
    refine q_if_lt hG rfl ⟨by omega, by omega⟩ (fun hc12 => absurd hc12 (by omega)) (fun hc12 => ?_)
    refine q_aload_n hG rfl rfl ?_
    refine q_iconst (v := 5) hG rfl rfl ?_
    refine q_aload_n hG rfl rfl ?_
    refine q_iload_n hG rfl rfl ?_
    refine q_iconst (v := 0) hG rfl rfl ?_
    refine q_callV6 hG rfl rfl rfl (by assumption) (s_R_cN (x := p) (w := 0) hm0 (by omega) (by decide) ?_)
    rw [show cR J1 m p 0 = R (29 + 5 * p) by rw [hf.c]; exact hJ0 _ (by omega)]
    refine q_callV6 hG rfl rfl rfl (by assumption) (s_R_rejects hm0 ?_)
    refine q_iret0 hG rfl rfl ?_
    exact p3 p (by rw [← aq]; exact e1) _ (by rw [st_ne _ _ (by omega), st_same]) (by rw [st_same]) ((((mfr.fld (by omega)).trans hf.m).trans (mfr.fld (by omega))).trans (mfr.fld (by omega)))
theorem s_R_settlesAll {d : Nat} {B : HP} {I : IM} {Post : Out → HP → Prop} {m : Nat} (hm : oM B m) {R : RW} {q : Int} (hR : RepM I m 0 R) (hW : WfR q R) (hq : q ≤ 2000000000)  (p3 : ∀ p : Nat, (stR2 R 1).1 = some p → ∀ J : IM, J m 8 = 5 → J m 9 = R (29 + 5 * p) → mfr I J m → Post (.inl (some (.int (i3 3)))) (wI B J)) (p0 : (stR2 R 1).1 = none → ∀ J : IM, RepM J m 0 (setB R (stR2 R 1).2.1 (stR2 R 1).2.2) → J m 4 = (stR2 R 1).2.2 → mfr I J m → Post (.inl (some (.int (i3 0)))) (wI B J)) : Sp (d + 8) k_X9_settlesAll [.ref m] (wI B I) Post := by
  refine Sp_intro md_X9_settlesAll rfl rfl (fun G hG => ?_)
  have hm0 := hm
  obtain ⟨n1, n2, n3, n4, n5, n6, n7, n8, n9, n10, n11⟩ := hm
  have hR0 : ∀ j, j < 79 → I (m + 1) j = R j := hR.at
  have hW0 := hW
  obtain ⟨w0, w1, w2, w3, w4, wd, wc⟩ := hW
  have hJ0 : ∀ j, j < 79 → st I m 10 0 (m + 1) j = R j := fun j hj => by rw [st_row _ _ (by omega)]; exact hR0 j hj
  obtain ⟨hag, hwf, hok, hn0, hcn⟩ := ref_trial hJ0 hW0 hq (st_same _ _ _ _)
  show G 0 [some (.ref m), none] [] (wI B I)
  refine q_aload_n hG rfl rfl ?_
  refine q_iconst (v := 0) hG rfl rfl ?_
  refine q_putI0 hG rfl (by assumption) ?_
  refine q_aload_n hG rfl rfl ?_
  refine q_iconst (v := 0) hG rfl rfl ?_
  refine q_callV6 hG rfl rfl rfl (by assumption) (s_R_settles (wa := 1) hm0 (Or.inr ⟨rfl, rfl⟩) hwf hok (by rw [st_same]; omega) (fun J1 e1 e2 hf => ?_) (fun J1 p e1 e1b e11 hf => ?_))
  · rw [hn0] at e1 e2
    obtain ⟨aq, ag, at2⟩ := stM_ag (wa := 1) hcn 1000 _ _ 0 hag
    rw [hn0, at2]
    have pb : 0 ≤ (stM (cnR R) 1 (R 1).toNat 1000 (ptR R) 0).2.2 ∧ (stM (cnR R) 1 (R 1).toNat 1000 (ptR R) 0).2.2 ≤ 241 := st_bd hW0 (wa := 1) (by rw [← aq]; exact e1)
    refine q_istore_n hG rfl rfl ?_
    refine q_iload_n hG rfl rfl ?_
    refine q_if_ge hG rfl ⟨by omega, by omega⟩ (fun hc12 => ?_) (fun hc12 => absurd (by omega) hc12)
    refine q_aload_n hG rfl rfl ?_
    refine q_getR hG rfl (by assumption) (by assumption) ?_
    refine q_iconst (v := 3) hG rfl rfl ?_
    refine q_dup2 hG rfl rfl rfl ?_
    refine q_ialdv (v := R 3) hG rfl (by assumption) ⟨by omega, by omega, by omega⟩ (by show J1 (m + 1) 3 = R 3; rw [hf.n 3 (by omega), st_row _ _ (by omega)]; exact hR0 3 (by omega)) ?_
    refine q_iload_n hG rfl rfl ?_
    refine q_iadd hG rfl ?_
    refine q_iast hG rfl (by assumption) ⟨by omega, by omega, by omega⟩ ?_
    refine q_aload_n hG rfl rfl ?_
    refine q_getR hG rfl (by assumption) (by assumption) ?_
    refine q_iconst (v := 4) hG rfl rfl ?_
    refine q_dup2 hG rfl rfl rfl ?_
    refine q_ialdv (v := R 4) hG rfl (by assumption) ⟨by omega, by omega, by omega⟩ (by show st J1 (m + 1) 3 _ (m + 1) 4 = R 4; rw [st_ne _ _ (by omega), hf.n 4 (by omega), st_row _ _ (by omega)]; exact hR0 4 (by omega)) ?_
    refine q_aload_n hG rfl rfl ?_
    refine q_getI0v (v := J1 m 10) hG rfl (by assumption) (by rw [st_row _ _ (by omega)]) ?_
    refine q_iadd hG rfl ?_
    refine q_iast hG rfl (by assumption) ⟨by omega, by omega, by omega⟩ ?_
    refine q_aload_n hG rfl rfl ?_
    refine q_iload_n hG rfl rfl ?_
    refine q_putI0 hG rfl (by assumption) ?_
    refine q_iconst (v := 0) hG rfl rfl ?_
    refine q_iret0 hG rfl rfl ?_
    have e10 : J1 m 10 = (stR2 R 1).2.1.2.2 := by rw [← ag.2]; exact congrArg (fun z => z.2.2) e2
    have i3 : (3 : Int).toNat = 3 := rfl
    have i4 : (4 : Int).toNat = 4 := rfl
    have e0 : ∀ j, j ≠ 3 → j ≠ 4 → (j < 5 ∨ 29 ≤ j ∨ (j - 5) % 4 < 2) → J1 (m + 1) j = I (m + 1) j := fun j a b c => by rw [hf.2.2 j c, st_row _ _ (by omega)]
    refine p0 (by rw [← aq]; exact e1) _ (RepM.of (setB_rm (s := (stR2 R 1).2.1) (dp := (stR2 R 1).2.2) (fun k hk => ?_) ?_ ?_ (fun j hj a b c => ?_))) ?_ ?_
    · refine ⟨?_, ?_⟩
      · rw [st_row _ _ (by omega), st_ne _ _ (by omega), st_ne _ _ (by omega)]
        exact (rfS_1 e2 k).trans (ag.1 k hk).1
      · rw [st_row _ _ (by omega), st_ne _ _ (by omega), st_ne _ _ (by omega)]
        exact (rfS_2 e2 k).trans (ag.1 k hk).2
    · rw [st_row _ _ (by omega), st_ne _ _ (by omega), i3, st_same]
    · rw [st_row _ _ (by omega), i4, st_same, e10]
    · rw [st_row _ _ (by omega), st_ne _ _ (by omega), st_ne _ _ (by omega), e0 j a b c]; exact hR0 j hj
    · rw [st_same]
    · exact ((((mfr.fld (by omega)).trans hf.m).trans (mfr.cell (by omega))).trans (mfr.cell (by omega))).trans (mfr.fld (by omega))
  · rw [hn0] at e1 e1b
    obtain ⟨aq, ag, at2⟩ := stM_ag (wa := 1) hcn 1000 _ _ 0 hag
    refine q_istore_n hG rfl rfl ?_
    refine q_iload_n hG rfl rfl ?_
    refine q_if_ge hG rfl ⟨by omega, by omega⟩ (fun q => absurd q (by decide)) (fun _ => ?_)
    refine q_aload_n hG rfl rfl ?_
    refine q_iconst (v := 5) hG rfl rfl ?_
    refine q_aload_n hG rfl rfl ?_
    refine q_aload_n hG rfl rfl ?_
    refine q_getI0v (v := (p : Int)) hG rfl (by assumption) (e11) ?_
    refine q_iconst (v := 0) hG rfl rfl ?_
    refine q_callV6 hG rfl rfl rfl (by assumption) (s_R_cN (x := p) (w := 0) hm0 (by omega) (by decide) ?_)
    rw [show cR J1 m p 0 = R (29 + 5 * p) by rw [hf.c]; exact hJ0 _ (by omega)]
    refine q_callV6 hG rfl rfl rfl (by assumption) (s_R_rejects hm0 ?_)
    refine q_iret0 hG rfl rfl ?_
    exact p3 p (by rw [← aq]; exact e1) _ (by rw [st_ne _ _ (by omega), st_same]) (by rw [st_same]) ((((mfr.fld (by omega)).trans hf.m).trans (mfr.fld (by omega))).trans (mfr.fld (by omega)))
/-! what is kept, and what comes back -/
def HistM (I : IM) (m : Nat) (c : Int) (h : Nat → RW) : Prop := I m 2 = c ∧ (0 ≤ c ∧ c ≤ 8) ∧ ∀ j : Nat, (j : Int) < c → RepM I m (c.toNat - j) (h j)
def BSt (I : IM) (m : Nat) (R : RW) (c : Int) (h : Nat → RW) (sv : Int) (SR : RW) (eo why det cau : Int) : Prop := RepM I m 10 R ∧ HistM I m c h ∧ (I m 3 = sv ∧ (sv = 0 ∨ sv = 1)) ∧ (sv = 1 → RepM I m 9 SR) ∧ I m 19 = eo ∧ I m 5 = why ∧ I m 6 = det ∧ I m 7 = cau
def MSt (I : IM) (m : Nat) (R : RW) (c : Int) (h : Nat → RW) (sv : Int) (SR : RW) (eo why det cau : Int) : Prop := RepM I m 0 R ∧ HistM I m c h ∧ (I m 3 = sv ∧ (sv = 0 ∨ sv = 1)) ∧ (sv = 1 → RepM I m 9 SR) ∧ I m 19 = eo ∧ I m 5 = why ∧ I m 6 = det ∧ I m 7 = cau
def mfT (I J : IM) (m : Nat) : Prop := (∀ a, a ≠ m → a ≠ m + 1 → J a = I a) ∧ ∀ k, 12 ≤ k → J m k = I m k
theorem mfT.trans {I J K : IM} {m : Nat} (h : mfT I J m) (h2 : mfT J K m) : mfT I K m := ⟨fun a p q => (h2.1 a p q).trans (h.1 a p q), fun k p => (h2.2 k p).trans (h.2 k p)⟩
theorem mfr.T {I J : IM} {m : Nat} (h : mfr I J m) : mfT I J m := ⟨h.1, fun k p => h.2.1 k (by omega) (by omega) (by omega) (by omega) (by omega)⟩
theorem RepM.row {I J : IM} {m r : Nat} {R : RW} (h : RepM I m r R) (hr : ∀ j, 79 * r ≤ j → j < 79 * r + 79 → J (m + 1) j = I (m + 1) j) : RepM J m r R := fun j hj => by
  rw [hr _ (by omega) (by omega)]
  exact h j hj
theorem HistM.keep {I J : IM} {m : Nat} {c : Int} {h : Nat → RW} (hh : HistM I m c h) (h2 : J m 2 = I m 2) (hr : ∀ j, 79 ≤ j → j < 711 → J (m + 1) j = I (m + 1) j) : HistM J m c h := by
  obtain ⟨a, b, d⟩ := hh
  exact ⟨h2.trans a, b, fun j hj => (d j hj).row (fun k h1 h2 => hr k (by omega) (by omega))⟩
theorem BSt.m {I J : IM} {m : Nat} {R : RW} {c : Int} {h : Nat → RW} {sv : Int} {SR : RW} {eo why det cau : Int} (hB : BSt I m R c h sv SR eo why det cau) (hf : mfr I J m) : BSt J m R c h sv SR eo why det cau := by
  obtain ⟨a, b, d, e, f, g, i, j⟩ := hB
  refine ⟨a.row (fun k h1 h2 => hf.2.2 k (by omega)), b.keep (hf.2.1 2 (by omega) (by omega) (by omega) (by omega) (by omega)) (fun k h1 h2 => hf.2.2 k (by omega)), ?_, fun z => (e z).row (fun k h1 h2 => hf.2.2 k (by omega)), ?_, ?_, ?_, ?_⟩
  · rw [hf.2.1 3 (by omega) (by omega) (by omega) (by omega) (by omega)]; exact d
  · rw [hf.2.1 19 (by omega) (by omega) (by omega) (by omega) (by omega)]; exact f
  · rw [hf.2.1 5 (by omega) (by omega) (by omega) (by omega) (by omega)]; exact g
  · rw [hf.2.1 6 (by omega) (by omega) (by omega) (by omega) (by omega)]; exact i
  · rw [hf.2.1 7 (by omega) (by omega) (by omega) (by omega) (by omega)]; exact j

theorem s_R_begins {d : Nat} {B : HP} {I : IM} {Post : Out → HP → Prop} {m : Nat} (hm : oM B m) {R : RW} {c : Int} {h : Nat → RW} {sv : Int} {SR : RW} {eo why det cau : Int} (hM : MSt I m R c h sv SR eo why det cau) (hp : ∀ J : IM, BSt J m R c h sv SR eo why det cau → RepM J m 0 R → mfT I J m → (∀ k, J m k = I m k) → Post (.inl none) (wI B J)) : Sp (d + 2) k_X9_begins [.ref m] (wI B I) Post := by
  refine Sp_intro md_X9_begins rfl rfl (fun G hG => ?_)
  have hm0 := hm
  obtain ⟨n1, n2, n3, n4, n5, n6, n7, n8, n9, n10, n11⟩ := hm
  obtain ⟨a, b, e0, e, f, g, i, j⟩ := hM
  show G 0 [some (.ref m)] [] (wI B I)
  refine q_aload_n hG rfl rfl ?_
  refine q_iconst (v := 0) hG rfl rfl ?_
  refine q_bipush (v := 10) hG rfl rfl ?_
  refine q_callV6 hG rfl rfl rfl (by assumption) (s_R_copies (a := 0) (b := 10) hm0 (by decide) (by decide) (fun J1 a1 a2 a3 => ?_))
  refine q_vret hG rfl ?_
  have jm : J1 m = I m := a3 m (by omega)
  refine hp J1 ⟨fun k hk => ?_, b.keep (by rw [jm]) (fun k h1 h2 => a2 k (by omega)), by rw [jm]; exact e0, fun z => (e z).row (fun k h1 h2 => a2 k (by omega)), by rw [jm]; exact f, by rw [jm]; exact g, by rw [jm]; exact i, by rw [jm]; exact j⟩ (a.row (fun k h1 h2 => a2 k (by omega))) ⟨fun k p q => a3 k q, fun k hk => by rw [jm]⟩ (fun k => by rw [jm])
  rw [a1 k hk, show 79 * 0 + k = k by omega]
  exact a.at k hk
theorem s_R_keptN {d : Nat} {B : HP} {I : IM} {Post : Out → HP → Prop} {m : Nat} (hm : oM B m) {R : RW} {x : Int} {c : Int} {h : Nat → RW} {sv : Int} {SR : RW} {eo why det cau : Int} (hx : r32 x) (hx0 : x ≠ 0) (hB : BSt I m R c h sv SR eo why det cau) (hp : ∀ J : IM, MSt J m R c h sv SR eo why det cau → J m 0 = x → mfT I J m → Post (.inl (some (.int (i3 0)))) (wI B J)) : Sp (d + 2) k_X9_kept [.ref m, .int (i3 (x))] (wI B I) Post := by
  refine Sp_intro md_X9_kept rfl rfl (fun G hG => ?_)
  have hm0 := hm
  obtain ⟨n1, n2, n3, n4, n5, n6, n7, n8, n9, n10, n11⟩ := hm
  obtain ⟨a, b, e0, e, f, g, i, j⟩ := hB
  show G 0 [some (.ref m), some (.int (i3 (x))), none] [] (wI B I)
  refine q_aload_n hG rfl rfl ?_
  refine q_iload_n hG rfl rfl ?_
  refine q_putI0 hG rfl (by assumption) ?_
  refine q_iload_n hG rfl rfl ?_
  refine q_if_eq hG rfl (hx) (fun hc6 => absurd hc6 (by omega)) (fun hc6 => ?_)
  refine q_aload_n hG rfl rfl ?_
  refine q_bipush (v := 10) hG rfl rfl ?_
  refine q_iconst (v := 0) hG rfl rfl ?_
  refine q_callV6 hG rfl rfl rfl (by assumption) (s_R_copies (a := 10) (b := 0) hm0 (by decide) (by decide) (fun J1 a1 a2 a3 => ?_))
  refine q_iconst (v := 0) hG rfl rfl ?_
  refine q_iret0 hG rfl rfl ?_
  have jm : J1 m = st I m 0 x m := a3 m (by omega)
  have jf : ∀ k, k ≠ 0 → J1 m k = I m k := fun k hk => by rw [jm, st_ne _ _ (by omega)]
  have js : ∀ k, (79 ≤ k) → J1 (m + 1) k = I (m + 1) k := fun k hk => by rw [a2 k (by omega), st_row _ _ (by omega)]
  refine hp J1 ⟨fun k hk => ?_, b.keep (jf 2 (by omega)) (fun k h1 h2 => js k (by omega)), by rw [jf 3 (by omega)]; exact e0, fun z => (e z).row (fun k h1 h2 => js k (by omega)), by rw [jf 19 (by omega)]; exact f, by rw [jf 5 (by omega)]; exact g, by rw [jf 6 (by omega)]; exact i, by rw [jf 7 (by omega)]; exact j⟩ (by rw [jm, st_same]) ⟨fun k p q => by rw [a3 k q, st_row _ _ p], fun k hk => jf k (by omega)⟩
  rw [a1 k hk, st_row _ _ (by omega)]
  exact a k hk
