/-! the reference reads the script -/
def vch (v kd : Int) : Int := if v = 1 then 100 else if v = 2 then 102 else if v = 3 then 110 else if v = 5 then 117 else if v = 6 then 112 else if v = 7 then 115 else if v = 8 then 114 else kd
/-- a command is noted -/
def mcP (J : IM) (m t : Nat) (v : Int) (s : PS) : Prop := J (m + 5) t = vch v s.2.2.2 ∧ nsM J m t s.2.2.1
/-- the place, the error, the commands and their count change -/
def hfM (I J : IM) (m : Nat) : Prop := (∀ a, a ≠ m → a ≠ m + 5 → J a = I a) ∧ ∀ k, k ≠ 17 → k ≠ 18 → k ≠ 21 → J m k = I m k
theorem hfM.trans {I J K : IM} {m : Nat} (h : hfM I J m) (h2 : hfM J K m) : hfM I K m := ⟨fun a p q => (h2.1 a p q).trans (h.1 a p q), fun k p q r => (h2.2 k p q r).trans (h.2 k p q r)⟩
theorem hfC.M {I J : IM} {m : Nat} (h : hfC I J m) : hfM I J m := ⟨h.1, fun k p q _ => h.2 k p q⟩
theorem hfM.st {I : IM} {m k : Nat} {z : Int} (hk : k = 17 ∨ k = 18 ∨ k = 21) : hfM I (st I m k z) m := ⟨fun a p _ => st_row _ _ p, fun j p q r => st_ne _ _ (by omega)⟩
theorem rqS.many {I : IM} {m : Nat} {l : List Int} {s : PS} (h : rqS I m l s) {z : Int} : rqS (st I m 21 z) m l s := by
  obtain ⟨a, b, c, d⟩ := h
  exact ⟨a.mv (st_ne _ _ (by omega)) (st_row _ _ (by omega)), by rw [st_ne _ _ (by omega)]; exact b, by rw [st_ne _ _ (by omega)]; exact c, d⟩
/-- cells from t on, four of them -/
def cel (I J : IM) (m t : Nat) : Prop := ∀ j, j < t → J (m + 5) j = I (m + 5) j

set_option maxRecDepth 100000 in
theorem s_R_command {d : Nat} {B : HP} {I : IM} {Post : Out → HP → Prop} {m : Nat} (hm : oM B m) {l : List Int} {p i : Nat} (hs : rqS I m l (true, p, [], 0)) (hm21 : I m 21 = (i : Int)) (hi : i ≤ 12) (hp : ∀ J : IM, rqS J m l (cm l p) → ((cm l p).1 = true → mcP J m (4 * i) (vb l p).1 (cm l p)) → cel I J m (4 * i) → J m 21 = (i : Int) + 1 → hfM I J m → Post (.inl none) (wI B J)) : Sp (d + 6) k_X9_command [.ref m] (wI B I) Post := by
  refine Sp_intro md_X9_command rfl rfl (fun G hG => ?_)
  have hm0 := hm
  obtain ⟨n1, n2, n3, n4, n5, n6, n7, n8, n9, n10, n11⟩ := hm
  have hs0 := hs
  obtain ⟨t, ht⟩ : ∃ t, t = 4 * i := ⟨_, rfl⟩
  obtain ⟨f, hf⟩ : ∃ f, f = sg l p := ⟨_, rfl⟩
  have hsb := sg_bd hs0.1.2.2.1 p
  rw [← hf] at hsb
  have et : (t : Int).toNat = t := by omega
  have et1 : ((t : Int) + 1).toNat = t + 1 := by omega
  have e0 : hfM I (st I m 21 ((i : Int) + 1)) m := hfM.st (Or.inr (Or.inr rfl))
  have q0 : rqS (st I m 21 ((i : Int) + 1)) m l (true, p, [], 0) := hs0.many
  have qZ : rqS (st (st (st (st (st I m 21 ((i : Int) + 1)) (m + 5) (t + 0) 0) (m + 5) (t + 1) 0) (m + 5) (t + 2) 0) (m + 5) (t + 3) 0) m l (true, p, [], 0) := (((q0.cell (j := t + 0) (z := 0)).cell (j := t + 1) (z := 0)).cell (j := t + 2) (z := 0)).cell (j := t + 3) (z := 0)
  have gZ : hfM I (st (st (st (st (st I m 21 ((i : Int) + 1)) (m + 5) (t + 0) 0) (m + 5) (t + 1) 0) (m + 5) (t + 2) 0) (m + 5) (t + 3) 0) m := (((e0.trans (hfC.cell (j := t + 0) (z := 0)).M).trans (hfC.cell (j := t + 1) (z := 0)).M).trans (hfC.cell (j := t + 2) (z := 0)).M).trans (hfC.cell (j := t + 3) (z := 0)).M
  have cZ : cel I (st (st (st (st (st I m 21 ((i : Int) + 1)) (m + 5) (t + 0) 0) (m + 5) (t + 1) 0) (m + 5) (t + 2) 0) (m + 5) (t + 3) 0) m t := fun j hj => by rw [st_ne _ _ (by omega), st_ne _ _ (by omega), st_ne _ _ (by omega), st_ne _ _ (by omega), st_row _ _ (by omega)]
  have mZ : (st (st (st (st (st I m 21 ((i : Int) + 1)) (m + 5) (t + 0) 0) (m + 5) (t + 1) 0) (m + 5) (t + 2) 0) (m + 5) (t + 3) 0) m 21 = (i : Int) + 1 := by rw [st_row _ _ (by omega), st_row _ _ (by omega), st_row _ _ (by omega), st_row _ _ (by omega), st_same]
  rw [← ht] at hp
  have j341 : ∀ (u9 : Unit), f = 100 → G 341 [some (.ref m), some (.int (i3 (t : Int))), some (.int (i3 f)), some (.int (i3 (0 + 1 + 1 + 1 + 1)))] [] (wI B (st (st (st (st (st (st (st I m 21 ((i : Int) + 1)) (m + 5) (t + 0) 0) (m + 5) (t + 1) 0) (m + 5) (t + 2) 0) (m + 5) (t + 3) 0) (m + 5) t f) m 17 ((p : Int) + 1))) := by
    intro u9 h100
    have h60 := sg_60 hs0.1.2.2.2 (p := p) (by omega)
    have qL : rqS (st (st (st (st (st (st (st I m 21 ((i : Int) + 1)) (m + 5) (t + 0) 0) (m + 5) (t + 1) 0) (m + 5) (t + 2) 0) (m + 5) (t + 3) 0) (m + 5) t f) m 17 ((p : Int) + 1)) m l (true, p + 1, ([] : List Int), (0 : Int)) := ⟨(qZ.cell (j := t) (z := f)).1.h (hfr.st (Or.inl rfl)), by rw [st_same]; show (p : Int) + 1 = ((p + 1 : Nat) : Int); omega, by rw [st_ne _ _ (by omega)]; exact (qZ.cell (j := t) (z := f)).ok rfl, by show p + 1 ≤ 61; omega⟩
    have gL : hfM I (st (st (st (st (st (st (st I m 21 ((i : Int) + 1)) (m + 5) (t + 0) 0) (m + 5) (t + 1) 0) (m + 5) (t + 2) 0) (m + 5) (t + 3) 0) (m + 5) t f) m 17 ((p : Int) + 1)) m := (gZ.trans (hfC.cell (j := t) (z := f)).M).trans (hfM.st (Or.inl rfl))
    have cL : cel I (st (st (st (st (st (st (st I m 21 ((i : Int) + 1)) (m + 5) (t + 0) 0) (m + 5) (t + 1) 0) (m + 5) (t + 2) 0) (m + 5) (t + 3) 0) (m + 5) t f) m 17 ((p : Int) + 1)) m t := fun j hj => by rw [st_row _ _ (by omega), st_ne _ _ (by omega)]; exact cZ j hj
    have tL : (st (st (st (st (st (st (st I m 21 ((i : Int) + 1)) (m + 5) (t + 0) 0) (m + 5) (t + 1) 0) (m + 5) (t + 2) 0) (m + 5) (t + 3) 0) (m + 5) t f) m 17 ((p : Int) + 1)) (m + 5) t = f := by rw [st_row _ _ (by omega), st_same]
    have mL : (st (st (st (st (st (st (st I m 21 ((i : Int) + 1)) (m + 5) (t + 0) 0) (m + 5) (t + 1) 0) (m + 5) (t + 2) 0) (m + 5) (t + 3) 0) (m + 5) t f) m 17 ((p : Int) + 1)) m 21 = (i : Int) + 1 := by rw [st_ne _ _ (by omega), st_row _ _ (by omega)]; exact mZ
    refine q_aload_n hG rfl rfl ?_
    refine q_callV6 hG rfl rfl rfl (by assumption) (s_R_sign (p := p + 1) hm0 qL.1 qL.2.1 qL.2.2.2 ?_)
    have hsb2 := sg_bd hs0.1.2.2.1 (p + 1)
    refine q_bipush (v := 114) hG rfl rfl ?_
    refine q_icmp_ne hG rfl ⟨by omega, by omega⟩ ⟨by omega, by omega⟩ (fun hc347 => ?_) (fun hc347 => ?_)
    · refine q_aload_n hG rfl rfl ?_
      refine q_bipush (v := 111) hG rfl rfl ?_
      refine q_bipush (v := 111) hG rfl rfl ?_
      refine q_bipush (v := 114) hG rfl rfl ?_
      refine q_callV6 hG rfl rfl rfl (by assumption) (s_R_letters hm0 qL (a := 111) (b := 111) (c := 114) ⟨⟨by decide, by decide⟩, by decide, by decide, by decide⟩ ⟨⟨by decide, by decide⟩, by decide, by decide, by decide⟩ ⟨⟨by decide, by decide⟩, by decide, by decide, by decide⟩ (fun J1 r1 f1 => ?_))
      refine q_aload_n hG rfl rfl ?_
      refine q_iload_n hG rfl rfl ?_
      refine q_iconst (v := 1) hG rfl rfl ?_
      refine q_iadd hG rfl ?_
      rw [show (t : Int) + 1 = ((t + 1 : Nat) : Int) by omega]
      refine q_callV6 hG rfl rfl rfl (by assumption) (s_R_range hm0 r1 (t := t + 1) (by omega) (fun J2 z1 z2 r2 e2 w1 w2 c2 f2 => ?_))
      refine q_vret hG rfl ?_
      have eV : vb l p = (1, fDoor) := by
        unfold vb
        rw [← hf]
        rw [if_pos (by omega), if_neg (by omega)]
      have eS : stp l (true, p, ([] : List Int), (0 : Int)) 100 = (true, p + 1, ([] : List Int), (0 : Int)) := stp_S1 (by decide) (by decide) (by decide) (by omega)
      have eC : cm l p = stp l (stp l (stp l (stp l (stp l (stp l (stp l ((true, p + 1, ([] : List Int), (0 : Int))) 111) 111) 114) 32) 78) 45) 78 := by
        rw [cm_of eV]
        show stp l (stp l (stp l (stp l (stp l (stp l (stp l (stp l ((true, p, ([] : List Int), (0 : Int))) 100) 111) 111) 114) 32) 78) 45) 78 = _
        rw [eS]
      rw [eC, eV] at hp
      have u : ∀ j, j ≤ t → J2 (m + 5) j = (st (st (st (st (st (st (st I m 21 ((i : Int) + 1)) (m + 5) (t + 0) 0) (m + 5) (t + 1) 0) (m + 5) (t + 2) 0) (m + 5) (t + 3) 0) (m + 5) t f) m 17 ((p : Int) + 1)) (m + 5) j := fun j hj => by rw [c2 j (by omega) (by omega), f1.1 _ (by omega)]
      refine hp _ r2 (fun z => ⟨?_, ?_⟩) (fun j hj => by rw [u j (by omega)]; exact cL j (by omega)) ?_ ((gL.trans f1.C.M).trans f2.M)
      · rw [u t (Nat.le_refl _), tL]
        show f = 100
        omega
      · rw [e2 z, stp_lit (by decide) (by decide), stp_lit (by decide) (by decide), stp_lit (by decide) (by decide)]
        exact nsM.two w1 w2
      · rw [f2.2 21 (by decide) (by decide), f1.2 21 (by decide) (by decide)]
        exact mL
    · refine q_aload_n hG rfl rfl ?_
      refine q_bipush (v := 114) hG rfl rfl ?_
      refine q_bipush (v := 111) hG rfl rfl ?_
      refine q_bipush (v := 112) hG rfl rfl ?_
      refine q_callV6 hG rfl rfl rfl (by assumption) (s_R_letters hm0 qL (a := 114) (b := 111) (c := 112) ⟨⟨by decide, by decide⟩, by decide, by decide, by decide⟩ ⟨⟨by decide, by decide⟩, by decide, by decide, by decide⟩ ⟨⟨by decide, by decide⟩, by decide, by decide, by decide⟩ (fun J1 r1 f1 => ?_))
      refine q_aload_n hG rfl rfl ?_
      refine q_getR hG rfl (by assumption) (by assumption) ?_
      refine q_iload_n hG rfl rfl ?_
      refine q_bipush (v := 117) hG rfl rfl ?_
      refine q_iast hG rfl (by assumption) ⟨by omega, by omega, by omega⟩ ?_
      rw [et]
      refine q_aload_n hG rfl rfl ?_
      refine q_getR hG rfl (by assumption) (by assumption) ?_
      refine q_iload_n hG rfl rfl ?_
      refine q_iconst (v := 1) hG rfl rfl ?_
      refine q_iadd hG rfl ?_
      refine q_aload_n hG rfl rfl ?_
      refine q_bipush (v := 32) hG rfl rfl ?_
      refine q_iconst (v := 2) hG rfl rfl ?_
      refine q_callV6 hG rfl rfl rfl (by assumption) (s_R_behind2 hm0 (r1.cell (j := t) (z := 117)) (c := 32) ⟨by decide, by decide⟩ ⟨by decide, by decide, by decide⟩ (fun J2 z1 r2 f2 e2 => ?_))
      refine q_iast hG rfl (by assumption) ⟨by omega, by omega, by omega⟩ ?_
      rw [et1]
      refine q_goto hG rfl ?_
      refine q_vret hG rfl ?_
      have eV : vb l p = (5, fDrop) := by
        unfold vb
        rw [← hf]
        rw [if_pos (by omega), if_pos (by omega)]
      have eS : stp l (true, p, ([] : List Int), (0 : Int)) 100 = (true, p + 1, ([] : List Int), (0 : Int)) := stp_S1 (by decide) (by decide) (by decide) (by omega)
      have eC : cm l p = stp l (stp l (stp l (stp l (stp l ((true, p + 1, ([] : List Int), (0 : Int))) 114) 111) 112) 32) 78 := by
        rw [cm_of eV]
        show stp l (stp l (stp l (stp l (stp l (stp l ((true, p, ([] : List Int), (0 : Int))) 100) 114) 111) 112) 32) 78 = _
        rw [eS]
      rw [eC, eV] at hp
      refine hp _ r2.cell (fun z => ⟨?_, ?_⟩) (fun j hj => by rw [st_ne _ _ (by omega), f2.1 _ (by omega), st_ne _ _ (by omega), f1.1 _ (by omega)]; exact cL j (by omega)) ?_ (((gL.trans f1.C.M).trans (hfC.cell.trans f2.C).M).trans hfC.cell.M)
      · rw [st_ne _ _ (by omega), f2.1 _ (by omega), st_same]
        rfl
      · rw [e2 z, stp_lit (by decide) (by decide), stp_lit (by decide) (by decide), stp_lit (by decide) (by decide)]
        exact nsM.one (st_same _ _ _ _)
      · rw [st_row _ _ (by omega), f2.2 21 (by decide) (by decide), st_row _ _ (by omega), f1.2 21 (by decide) (by decide)]
        exact mL
  have j113 : ∀ (u9 : Unit), f = 100 ∨ f = 102 ∨ f = 110 ∨ f = 112 ∨ f = 115 ∨ f = 114 → G 113 [some (.ref m), some (.int (i3 (t : Int))), some (.int (i3 f)), some (.int (i3 (0 + 1 + 1 + 1 + 1)))] [] (wI B (st (st (st (st (st (st I m 21 ((i : Int) + 1)) (m + 5) (t + 0) 0) (m + 5) (t + 1) 0) (m + 5) (t + 2) 0) (m + 5) (t + 3) 0) (m + 5) t f)) := by
    intro u9 hfl
    have h60 := sg_60 hs0.1.2.2.2 (p := p) (by omega)
    have qL : rqS (st (st (st (st (st (st (st I m 21 ((i : Int) + 1)) (m + 5) (t + 0) 0) (m + 5) (t + 1) 0) (m + 5) (t + 2) 0) (m + 5) (t + 3) 0) (m + 5) t f) m 17 ((p : Int) + 1)) m l (true, p + 1, ([] : List Int), (0 : Int)) := ⟨(qZ.cell (j := t) (z := f)).1.h (hfr.st (Or.inl rfl)), by rw [st_same]; show (p : Int) + 1 = ((p + 1 : Nat) : Int); omega, by rw [st_ne _ _ (by omega)]; exact (qZ.cell (j := t) (z := f)).ok rfl, by show p + 1 ≤ 61; omega⟩
    have gL : hfM I (st (st (st (st (st (st (st I m 21 ((i : Int) + 1)) (m + 5) (t + 0) 0) (m + 5) (t + 1) 0) (m + 5) (t + 2) 0) (m + 5) (t + 3) 0) (m + 5) t f) m 17 ((p : Int) + 1)) m := (gZ.trans (hfC.cell (j := t) (z := f)).M).trans (hfM.st (Or.inl rfl))
    have cL : cel I (st (st (st (st (st (st (st I m 21 ((i : Int) + 1)) (m + 5) (t + 0) 0) (m + 5) (t + 1) 0) (m + 5) (t + 2) 0) (m + 5) (t + 3) 0) (m + 5) t f) m 17 ((p : Int) + 1)) m t := fun j hj => by rw [st_row _ _ (by omega), st_ne _ _ (by omega)]; exact cZ j hj
    have tL : (st (st (st (st (st (st (st I m 21 ((i : Int) + 1)) (m + 5) (t + 0) 0) (m + 5) (t + 1) 0) (m + 5) (t + 2) 0) (m + 5) (t + 3) 0) (m + 5) t f) m 17 ((p : Int) + 1)) (m + 5) t = f := by rw [st_row _ _ (by omega), st_same]
    have mL : (st (st (st (st (st (st (st I m 21 ((i : Int) + 1)) (m + 5) (t + 0) 0) (m + 5) (t + 1) 0) (m + 5) (t + 2) 0) (m + 5) (t + 3) 0) (m + 5) t f) m 17 ((p : Int) + 1)) m 21 = (i : Int) + 1 := by rw [st_ne _ _ (by omega), st_row _ _ (by omega)]; exact mZ
    refine q_aload_n hG rfl rfl ?_
    refine q_dup hG rfl rfl ?_
    refine q_getI0v (v := (p : Int)) hG rfl (by assumption) (by rw [st_row _ _ (by omega)]; exact qZ.2.1) ?_
    refine q_iconst (v := 1) hG rfl rfl ?_
    refine q_iadd hG rfl ?_
    refine q_putI0 hG rfl (by assumption) ?_
    refine q_iload_n hG rfl rfl ?_
    refine q_tsw hG rfl ⟨by omega, by omega⟩ rfl ?_
    refine ⟨fun hs124 => ?_, fun hs124_102 => ?_⟩
    · refine q_aload_n hG rfl rfl ?_
      refine q_bipush (v := 114) hG rfl rfl ?_
      refine q_bipush (v := 97) hG rfl rfl ?_
      refine q_bipush (v := 109) hG rfl rfl ?_
      refine q_callV6 hG rfl rfl rfl (by assumption) (s_R_letters hm0 qL (a := 114) (b := 97) (c := 109) ⟨⟨by decide, by decide⟩, by decide, by decide, by decide⟩ ⟨⟨by decide, by decide⟩, by decide, by decide, by decide⟩ ⟨⟨by decide, by decide⟩, by decide, by decide, by decide⟩ (fun J1 r1 f1 => ?_))
      refine q_aload_n hG rfl rfl ?_
      refine q_bipush (v := 101) hG rfl rfl ?_
      refine q_callV6 hG rfl rfl rfl (by assumption) (s_R_needs hm0 r1 (c := 101) ⟨by decide, by decide⟩ ⟨by decide, by decide, by decide⟩ (fun J2 r2 f2 => ?_))
      refine q_aload_n hG rfl rfl ?_
      refine q_getR hG rfl (by assumption) (by assumption) ?_
      refine q_iload_n hG rfl rfl ?_
      refine q_iconst (v := 1) hG rfl rfl ?_
      refine q_iadd hG rfl ?_
      refine q_aload_n hG rfl rfl ?_
      refine q_bipush (v := 32) hG rfl rfl ?_
      refine q_iconst (v := 1) hG rfl rfl ?_
      refine q_callV6 hG rfl rfl rfl (by assumption) (s_R_behind1 hm0 r2 (c := 32) ⟨by decide, by decide⟩ ⟨by decide, by decide, by decide⟩ (fun J3 z1 r3 f3 e3 => ?_))
      refine q_iast hG rfl (by assumption) ⟨by omega, by omega, by omega⟩ ?_
      rw [et1]
      refine q_aload_n hG rfl rfl ?_
      refine q_iload_n hG rfl rfl ?_
      refine q_iconst (v := 2) hG rfl rfl ?_
      refine q_iadd hG rfl ?_
      rw [show (t : Int) + 2 = ((t + 2 : Nat) : Int) by omega]
      refine q_callV6 hG rfl rfl rfl (by assumption) (s_R_range hm0 (r3.cell (j := t + 1) (z := z1)) (t := t + 2) (by omega) (fun J4 z2 z3 r4 e4 w1 w2 c4 f4 => ?_))
      refine q_goto hG rfl ?_
      refine q_vret hG rfl ?_
      have eV : vb l p = (2, fFrame) := by
        unfold vb
        rw [← hf]
        rw [show f = 102 by omega]; rfl
      have eS : stp l (true, p, ([] : List Int), (0 : Int)) 102 = (true, p + 1, ([] : List Int), (0 : Int)) := stp_S1 (by decide) (by decide) (by decide) (by omega)
      have eC : cm l p = stp l (stp l (stp l (stp l (stp l (stp l (stp l (stp l (stp l (stp l ((true, p + 1, ([] : List Int), (0 : Int))) 114) 97) 109) 101) 32) 68) 32) 78) 45) 78 := by
        rw [cm_of eV]
        show stp l (stp l (stp l (stp l (stp l (stp l (stp l (stp l (stp l (stp l (stp l ((true, p, ([] : List Int), (0 : Int))) 102) 114) 97) 109) 101) 32) 68) 32) 78) 45) 78 = _
        rw [eS]
      rw [eC, eV] at hp
      have u : ∀ j, j ≤ t → J4 (m + 5) j = (st (st (st (st (st (st (st I m 21 ((i : Int) + 1)) (m + 5) (t + 0) 0) (m + 5) (t + 1) 0) (m + 5) (t + 2) 0) (m + 5) (t + 3) 0) (m + 5) t f) m 17 ((p : Int) + 1)) (m + 5) j := fun j hj => by rw [c4 j (by omega) (by omega), st_ne _ _ (by omega), f3.1 _ (by omega), f2.1 _ (by omega), f1.1 _ (by omega)]
      refine hp _ r4 (fun z => ⟨?_, ?_⟩) (fun j hj => by rw [u j (by omega)]; exact cL j (by omega)) ?_ ((((gL.trans f1.C.M).trans f2.C.M).trans (f3.C.trans hfC.cell).M).trans f4.M)
      · rw [u t (Nat.le_refl _), tL]
        show f = 102
        omega
      · rw [e4 z, e3 (stp_t (stp_t (stp_t (stp_t z)))), stp_lit (by decide) (by decide), stp_lit (by decide) (by decide), stp_lit (by decide) (by decide), stp_lit (by decide) (by decide)]
        refine nsM.three ?_ w1 w2
        rw [c4 _ (by omega) (by omega), st_same]
      · rw [f4.2 21 (by decide) (by decide), st_row _ _ (by omega), f3.2 21 (by decide) (by decide), f2.2 21 (by decide) (by decide), f1.2 21 (by decide) (by decide)]
        exact mL
    refine ⟨fun hs124 => ?_, fun hs124_103 => ?_⟩
    · exact j341 () (by omega)
    refine ⟨fun hs124 => ?_, fun hs124_104 => ?_⟩
    · exact j341 () (by omega)
    refine ⟨fun hs124 => ?_, fun hs124_105 => ?_⟩
    · exact j341 () (by omega)
    refine ⟨fun hs124 => ?_, fun hs124_106 => ?_⟩
    · exact j341 () (by omega)
    refine ⟨fun hs124 => ?_, fun hs124_107 => ?_⟩
    · exact j341 () (by omega)
    refine ⟨fun hs124 => ?_, fun hs124_108 => ?_⟩
    · exact j341 () (by omega)
    refine ⟨fun hs124 => ?_, fun hs124_109 => ?_⟩
    · exact j341 () (by omega)
    refine ⟨fun hs124 => ?_, fun hs124_110 => ?_⟩
    · refine q_aload_n hG rfl rfl ?_
      refine q_bipush (v := 97) hG rfl rfl ?_
      refine q_bipush (v := 114) hG rfl rfl ?_
      refine q_bipush (v := 114) hG rfl rfl ?_
      refine q_callV6 hG rfl rfl rfl (by assumption) (s_R_letters hm0 qL (a := 97) (b := 114) (c := 114) ⟨⟨by decide, by decide⟩, by decide, by decide, by decide⟩ ⟨⟨by decide, by decide⟩, by decide, by decide, by decide⟩ ⟨⟨by decide, by decide⟩, by decide, by decide, by decide⟩ (fun J1 r1 f1 => ?_))
      refine q_aload_n hG rfl rfl ?_
      refine q_bipush (v := 111) hG rfl rfl ?_
      refine q_callV6 hG rfl rfl rfl (by assumption) (s_R_needs hm0 r1 (c := 111) ⟨by decide, by decide⟩ ⟨by decide, by decide, by decide⟩ (fun J2 r2 f2 => ?_))
      refine q_aload_n hG rfl rfl ?_
      refine q_bipush (v := 119) hG rfl rfl ?_
      refine q_callV6 hG rfl rfl rfl (by assumption) (s_R_needs hm0 r2 (c := 119) ⟨by decide, by decide⟩ ⟨by decide, by decide, by decide⟩ (fun J3 r3 f3 => ?_))
      refine q_aload_n hG rfl rfl ?_
      refine q_getR hG rfl (by assumption) (by assumption) ?_
      refine q_iload_n hG rfl rfl ?_
      refine q_iconst (v := 1) hG rfl rfl ?_
      refine q_iadd hG rfl ?_
      refine q_aload_n hG rfl rfl ?_
      refine q_bipush (v := 32) hG rfl rfl ?_
      refine q_iconst (v := 1) hG rfl rfl ?_
      refine q_callV6 hG rfl rfl rfl (by assumption) (s_R_behind1 hm0 r3 (c := 32) ⟨by decide, by decide⟩ ⟨by decide, by decide, by decide⟩ (fun J4 z1 r4 f4 e4 => ?_))
      refine q_iast hG rfl (by assumption) ⟨by omega, by omega, by omega⟩ ?_
      rw [et1]
      refine q_aload_n hG rfl rfl ?_
      refine q_iload_n hG rfl rfl ?_
      refine q_iconst (v := 2) hG rfl rfl ?_
      refine q_iadd hG rfl ?_
      rw [show (t : Int) + 2 = ((t + 2 : Nat) : Int) by omega]
      refine q_callV6 hG rfl rfl rfl (by assumption) (s_R_range hm0 (r4.cell (j := t + 1) (z := z1)) (t := t + 2) (by omega) (fun J5 z2 z3 r5 e5 w1 w2 c5 f5 => ?_))
      refine q_goto hG rfl ?_
      refine q_vret hG rfl ?_
      have eV : vb l p = (3, fNarrow) := by
        unfold vb
        rw [← hf]
        rw [show f = 110 by omega]; rfl
      have eS : stp l (true, p, ([] : List Int), (0 : Int)) 110 = (true, p + 1, ([] : List Int), (0 : Int)) := stp_S1 (by decide) (by decide) (by decide) (by omega)
      have eC : cm l p = stp l (stp l (stp l (stp l (stp l (stp l (stp l (stp l (stp l (stp l (stp l ((true, p + 1, ([] : List Int), (0 : Int))) 97) 114) 114) 111) 119) 32) 68) 32) 78) 45) 78 := by
        rw [cm_of eV]
        show stp l (stp l (stp l (stp l (stp l (stp l (stp l (stp l (stp l (stp l (stp l (stp l ((true, p, ([] : List Int), (0 : Int))) 110) 97) 114) 114) 111) 119) 32) 68) 32) 78) 45) 78 = _
        rw [eS]
      rw [eC, eV] at hp
      have u : ∀ j, j ≤ t → J5 (m + 5) j = (st (st (st (st (st (st (st I m 21 ((i : Int) + 1)) (m + 5) (t + 0) 0) (m + 5) (t + 1) 0) (m + 5) (t + 2) 0) (m + 5) (t + 3) 0) (m + 5) t f) m 17 ((p : Int) + 1)) (m + 5) j := fun j hj => by rw [c5 j (by omega) (by omega), st_ne _ _ (by omega), f4.1 _ (by omega), f3.1 _ (by omega), f2.1 _ (by omega), f1.1 _ (by omega)]
      refine hp _ r5 (fun z => ⟨?_, ?_⟩) (fun j hj => by rw [u j (by omega)]; exact cL j (by omega)) ?_ (((((gL.trans f1.C.M).trans f2.C.M).trans f3.C.M).trans (f4.C.trans hfC.cell).M).trans f5.M)
      · rw [u t (Nat.le_refl _), tL]
        show f = 110
        omega
      · rw [e5 z, e4 (stp_t (stp_t (stp_t (stp_t z)))), stp_lit (by decide) (by decide), stp_lit (by decide) (by decide), stp_lit (by decide) (by decide), stp_lit (by decide) (by decide), stp_lit (by decide) (by decide)]
        refine nsM.three ?_ w1 w2
        rw [c5 _ (by omega) (by omega), st_same]
      · rw [f5.2 21 (by decide) (by decide), st_row _ _ (by omega), f4.2 21 (by decide) (by decide), f3.2 21 (by decide) (by decide), f2.2 21 (by decide) (by decide), f1.2 21 (by decide) (by decide)]
        exact mL
    refine ⟨fun hs124 => ?_, fun hs124_111 => ?_⟩
    · exact j341 () (by omega)
    refine ⟨fun hs124 => ?_, fun hs124_112 => ?_⟩
    · refine q_aload_n hG rfl rfl ?_
      refine q_bipush (v := 97) hG rfl rfl ?_
      refine q_bipush (v := 115) hG rfl rfl ?_
      refine q_bipush (v := 115) hG rfl rfl ?_
      refine q_callV6 hG rfl rfl rfl (by assumption) (s_R_letters hm0 qL (a := 97) (b := 115) (c := 115) ⟨⟨by decide, by decide⟩, by decide, by decide, by decide⟩ ⟨⟨by decide, by decide⟩, by decide, by decide, by decide⟩ ⟨⟨by decide, by decide⟩, by decide, by decide, by decide⟩ (fun J1 r1 f1 => ?_))
      refine q_goto hG rfl ?_
      refine q_vret hG rfl ?_
      have eV : vb l p = (6, fPass) := by
        unfold vb
        rw [← hf]
        rw [show f = 112 by omega]; rfl
      have eS : stp l (true, p, ([] : List Int), (0 : Int)) 112 = (true, p + 1, ([] : List Int), (0 : Int)) := stp_S1 (by decide) (by decide) (by decide) (by omega)
      have eC : cm l p = stp l (stp l (stp l ((true, p + 1, ([] : List Int), (0 : Int))) 97) 115) 115 := by
        rw [cm_of eV]
        show stp l (stp l (stp l (stp l ((true, p, ([] : List Int), (0 : Int))) 112) 97) 115) 115 = _
        rw [eS]
      rw [eC, eV] at hp
      refine hp _ r1 (fun z => ⟨?_, ?_⟩) (fun j hj => by rw [f1.1 _ (by omega)]; exact cL j (by omega)) ?_ (gL.trans f1.C.M)
      · rw [f1.1 _ (by omega), tL]
        show f = 112
        omega
      · rw [stp_lit (by decide) (by decide), stp_lit (by decide) (by decide), stp_lit (by decide) (by decide)]
        intro z hz
        exact absurd hz (by simp)
      · rw [f1.2 21 (by decide) (by decide)]
        exact mL
    refine ⟨fun hs124 => ?_, fun hs124_113 => ?_⟩
    · exact j341 () (by omega)
    refine ⟨fun hs124 => ?_, fun hs124_114 => ?_⟩
    · refine q_aload_n hG rfl rfl ?_
      refine q_bipush (v := 101) hG rfl rfl ?_
      refine q_bipush (v := 115) hG rfl rfl ?_
      refine q_bipush (v := 101) hG rfl rfl ?_
      refine q_callV6 hG rfl rfl rfl (by assumption) (s_R_letters hm0 qL (a := 101) (b := 115) (c := 101) ⟨⟨by decide, by decide⟩, by decide, by decide, by decide⟩ ⟨⟨by decide, by decide⟩, by decide, by decide, by decide⟩ ⟨⟨by decide, by decide⟩, by decide, by decide, by decide⟩ (fun J1 r1 f1 => ?_))
      refine q_aload_n hG rfl rfl ?_
      refine q_bipush (v := 116) hG rfl rfl ?_
      refine q_callV6 hG rfl rfl rfl (by assumption) (s_R_needs hm0 r1 (c := 116) ⟨by decide, by decide⟩ ⟨by decide, by decide, by decide⟩ (fun J2 r2 f2 => ?_))
      refine q_goto hG rfl ?_
      refine q_vret hG rfl ?_
      have eV : vb l p = (8, fReset) := by
        unfold vb
        rw [← hf]
        rw [show f = 114 by omega]; rfl
      have eS : stp l (true, p, ([] : List Int), (0 : Int)) 114 = (true, p + 1, ([] : List Int), (0 : Int)) := stp_S1 (by decide) (by decide) (by decide) (by omega)
      have eC : cm l p = stp l (stp l (stp l (stp l ((true, p + 1, ([] : List Int), (0 : Int))) 101) 115) 101) 116 := by
        rw [cm_of eV]
        show stp l (stp l (stp l (stp l (stp l ((true, p, ([] : List Int), (0 : Int))) 114) 101) 115) 101) 116 = _
        rw [eS]
      rw [eC, eV] at hp
      refine hp _ r2 (fun z => ⟨?_, ?_⟩) (fun j hj => by rw [f2.1 _ (by omega), f1.1 _ (by omega)]; exact cL j (by omega)) ?_ ((gL.trans f1.C.M).trans f2.C.M)
      · rw [f2.1 _ (by omega), f1.1 _ (by omega), tL]
        show f = 114
        omega
      · rw [stp_lit (by decide) (by decide), stp_lit (by decide) (by decide), stp_lit (by decide) (by decide), stp_lit (by decide) (by decide)]
        intro z hz
        exact absurd hz (by simp)
      · rw [f2.2 21 (by decide) (by decide), f1.2 21 (by decide) (by decide)]
        exact mL
    refine ⟨fun hs124 => ?_, fun hs124_115 => ?_⟩
    · refine q_aload_n hG rfl rfl ?_
      refine q_bipush (v := 101) hG rfl rfl ?_
      refine q_bipush (v := 116) hG rfl rfl ?_
      refine q_bipush (v := 116) hG rfl rfl ?_
      refine q_callV6 hG rfl rfl rfl (by assumption) (s_R_letters hm0 qL (a := 101) (b := 116) (c := 116) ⟨⟨by decide, by decide⟩, by decide, by decide, by decide⟩ ⟨⟨by decide, by decide⟩, by decide, by decide, by decide⟩ ⟨⟨by decide, by decide⟩, by decide, by decide, by decide⟩ (fun J1 r1 f1 => ?_))
      refine q_aload_n hG rfl rfl ?_
      refine q_bipush (v := 108) hG rfl rfl ?_
      refine q_callV6 hG rfl rfl rfl (by assumption) (s_R_needs hm0 r1 (c := 108) ⟨by decide, by decide⟩ ⟨by decide, by decide, by decide⟩ (fun J2 r2 f2 => ?_))
      refine q_aload_n hG rfl rfl ?_
      refine q_bipush (v := 101) hG rfl rfl ?_
      refine q_callV6 hG rfl rfl rfl (by assumption) (s_R_needs hm0 r2 (c := 101) ⟨by decide, by decide⟩ ⟨by decide, by decide, by decide⟩ (fun J3 r3 f3 => ?_))
      refine q_goto hG rfl ?_
      refine q_vret hG rfl ?_
      have eV : vb l p = (7, fSettle) := by
        unfold vb
        rw [← hf]
        rw [show f = 115 by omega]; rfl
      have eS : stp l (true, p, ([] : List Int), (0 : Int)) 115 = (true, p + 1, ([] : List Int), (0 : Int)) := stp_S1 (by decide) (by decide) (by decide) (by omega)
      have eC : cm l p = stp l (stp l (stp l (stp l (stp l ((true, p + 1, ([] : List Int), (0 : Int))) 101) 116) 116) 108) 101 := by
        rw [cm_of eV]
        show stp l (stp l (stp l (stp l (stp l (stp l ((true, p, ([] : List Int), (0 : Int))) 115) 101) 116) 116) 108) 101 = _
        rw [eS]
      rw [eC, eV] at hp
      refine hp _ r3 (fun z => ⟨?_, ?_⟩) (fun j hj => by rw [f3.1 _ (by omega), f2.1 _ (by omega), f1.1 _ (by omega)]; exact cL j (by omega)) ?_ (((gL.trans f1.C.M).trans f2.C.M).trans f3.C.M)
      · rw [f3.1 _ (by omega), f2.1 _ (by omega), f1.1 _ (by omega), tL]
        show f = 115
        omega
      · rw [stp_lit (by decide) (by decide), stp_lit (by decide) (by decide), stp_lit (by decide) (by decide), stp_lit (by decide) (by decide), stp_lit (by decide) (by decide)]
        intro z hz
        exact absurd hz (by simp)
      · rw [f3.2 21 (by decide) (by decide), f2.2 21 (by decide) (by decide), f1.2 21 (by decide) (by decide)]
        exact mL
    exact j341 () (by omega)
  show G 0 [some (.ref m), none, none, none] [] (wI B I)
  refine q_iconst (v := 4) hG rfl rfl ?_
  refine q_aload_n hG rfl rfl ?_
  refine q_getI0v (v := (i : Int)) hG rfl (by assumption) (hm21) ?_
  refine q_imul hG rfl ?_
  rw [show (4 : Int) * (i : Int) = (t : Int) by omega]
  refine q_istore_n hG rfl rfl ?_
  refine q_aload_n hG rfl rfl ?_
  refine q_dup hG rfl rfl ?_
  refine q_getI0v (v := (i : Int)) hG rfl (by assumption) (hm21) ?_
  refine q_iconst (v := 1) hG rfl rfl ?_
  refine q_iadd hG rfl ?_
  refine q_putI0 hG rfl (by assumption) ?_
  refine q_aload_n hG rfl rfl ?_
  refine q_callV6 hG rfl rfl rfl (by assumption) (s_R_sign (p := p) hm0 hs0.many.1 (by rw [st_ne _ _ (by omega)]; exact hs0.2.1) hs0.2.2.2 ?_)
  rw [← hf]
  refine q_istore_n hG rfl rfl ?_
  refine q_iconst (v := 0) hG rfl rfl ?_
  refine q_istore_n hG rfl rfl ?_
  refine q_iload_n hG rfl rfl ?_
  refine q_iconst (v := 4) hG rfl rfl ?_
  refine q_icmp_ge hG rfl ⟨by omega, by omega⟩ ⟨by omega, by omega⟩ (fun q => absurd q (by decide)) (fun _ => ?_)
  refine q_aload_n hG rfl rfl ?_
  refine q_getR hG rfl (by assumption) (by assumption) ?_
  refine q_iload_n hG rfl rfl ?_
  refine q_iload_n hG rfl rfl ?_
  refine q_iadd hG rfl ?_
  refine q_iconst (v := 0) hG rfl rfl ?_
  refine q_iast hG rfl (by assumption) ⟨by omega, by omega, by omega⟩ ?_
  refine q_iinc (c := 1) hG rfl rfl rfl rfl ?_
  refine q_goto hG rfl ?_
  refine q_iload_n hG rfl rfl ?_
  refine q_iconst (v := 4) hG rfl rfl ?_
  refine q_icmp_ge hG rfl ⟨by omega, by omega⟩ ⟨by omega, by omega⟩ (fun q => absurd q (by decide)) (fun _ => ?_)
  refine q_aload_n hG rfl rfl ?_
  refine q_getR hG rfl (by assumption) (by assumption) ?_
  refine q_iload_n hG rfl rfl ?_
  refine q_iload_n hG rfl rfl ?_
  refine q_iadd hG rfl ?_
  refine q_iconst (v := 0) hG rfl rfl ?_
  refine q_iast hG rfl (by assumption) ⟨by omega, by omega, by omega⟩ ?_
  refine q_iinc (c := 1) hG rfl rfl rfl rfl ?_
  refine q_goto hG rfl ?_
  refine q_iload_n hG rfl rfl ?_
  refine q_iconst (v := 4) hG rfl rfl ?_
  refine q_icmp_ge hG rfl ⟨by omega, by omega⟩ ⟨by omega, by omega⟩ (fun q => absurd q (by decide)) (fun _ => ?_)
  refine q_aload_n hG rfl rfl ?_
  refine q_getR hG rfl (by assumption) (by assumption) ?_
  refine q_iload_n hG rfl rfl ?_
  refine q_iload_n hG rfl rfl ?_
  refine q_iadd hG rfl ?_
  refine q_iconst (v := 0) hG rfl rfl ?_
  refine q_iast hG rfl (by assumption) ⟨by omega, by omega, by omega⟩ ?_
  refine q_iinc (c := 1) hG rfl rfl rfl rfl ?_
  refine q_goto hG rfl ?_
  refine q_iload_n hG rfl rfl ?_
  refine q_iconst (v := 4) hG rfl rfl ?_
  refine q_icmp_ge hG rfl ⟨by omega, by omega⟩ ⟨by omega, by omega⟩ (fun q => absurd q (by decide)) (fun _ => ?_)
  refine q_aload_n hG rfl rfl ?_
  refine q_getR hG rfl (by assumption) (by assumption) ?_
  refine q_iload_n hG rfl rfl ?_
  refine q_iload_n hG rfl rfl ?_
  refine q_iadd hG rfl ?_
  refine q_iconst (v := 0) hG rfl rfl ?_
  refine q_iast hG rfl (by assumption) ⟨by omega, by omega, by omega⟩ ?_
  refine q_iinc (c := 1) hG rfl rfl rfl rfl ?_
  refine q_goto hG rfl ?_
  refine q_iload_n hG rfl rfl ?_
  refine q_iconst (v := 4) hG rfl rfl ?_
  refine q_icmp_ge hG rfl ⟨by omega, by omega⟩ ⟨by omega, by omega⟩ (fun _ => ?_) (fun q => absurd (by decide) q)
  have eZ : st (st (st (st (st I m 21 ((i : Int) + 1)) (m + 5) ((t : Int) + 0).toNat 0) (m + 5) ((t : Int) + (0 + 1)).toNat 0) (m + 5) ((t : Int) + (0 + 1 + 1)).toNat 0) (m + 5) ((t : Int) + (0 + 1 + 1 + 1)).toNat 0 = (st (st (st (st (st I m 21 ((i : Int) + 1)) (m + 5) (t + 0) 0) (m + 5) (t + 1) 0) (m + 5) (t + 2) 0) (m + 5) (t + 3) 0) := by
    rw [show ((t : Int) + 0).toNat = t + 0 by omega, show ((t : Int) + (0 + 1)).toNat = t + 1 by omega, show ((t : Int) + (0 + 1 + 1)).toNat = t + 2 by omega, show ((t : Int) + (0 + 1 + 1 + 1)).toNat = t + 3 by omega]
  rw [eZ]
  refine q_iload_n hG rfl rfl ?_
  refine q_bipush (v := 48) hG rfl rfl ?_
  refine q_bipush (v := 57) hG rfl rfl ?_
  refine q_callS0 hG rfl rfl rfl (s_R_in ⟨by omega, by omega⟩ ⟨by omega, by omega⟩ ⟨by omega, by omega⟩ (fun hd => ?_) (fun hd => ?_))
  · refine q_if_eq hG rfl ⟨by omega, by omega⟩ (fun q => absurd q (by decide)) (fun _ => ?_)
    refine q_aload_n hG rfl rfl ?_
    refine q_iload_n hG rfl rfl ?_
    refine q_callV6 hG rfl rfl rfl (by assumption) (s_R_binding hm0 qZ (t := t) (by omega) (fun J1 r1 c1 d1 f1 => ?_))
    refine q_vret hG rfl ?_
    have eV : vb l p = (4, fBind) := by
      unfold vb
      rw [← hf]
      rw [if_neg (by omega), if_neg (by omega), if_neg (by omega), if_neg (by omega), if_neg (by omega), if_neg (by omega)]
    have eC := cm_of eV
    rw [eC, eV] at hp
    exact hp J1 r1 (fun z => c1 z) (fun j hj => by rw [d1 j (by omega)]; exact cZ j (by omega)) (by rw [f1.2 21 (by decide) (by decide)]; exact mZ) (gZ.trans f1.M)
  · refine q_if_eq hG rfl ⟨by omega, by omega⟩ (fun _ => ?_) (fun q => absurd (by decide) q)
    refine q_aload_n hG rfl rfl ?_
    refine q_getR hG rfl (by assumption) (by assumption) ?_
    refine q_iload_n hG rfl rfl ?_
    refine q_iload_n hG rfl rfl ?_
    refine q_iast hG rfl (by assumption) ⟨by omega, by omega, by omega⟩ ?_
    rw [et]
    refine q_iload_n hG rfl rfl ?_
    refine q_bipush (v := 100) hG rfl rfl ?_
    refine q_icmp_eq hG rfl ⟨by omega, by omega⟩ ⟨by omega, by omega⟩ (fun hc71 => ?_) (fun hc71 => ?_)
    · exact j113 () (by omega)
    · refine q_iload_n hG rfl rfl ?_
      refine q_bipush (v := 102) hG rfl rfl ?_
      refine q_icmp_eq hG rfl ⟨by omega, by omega⟩ ⟨by omega, by omega⟩ (fun hc77 => ?_) (fun hc77 => ?_)
      · exact j113 () (by omega)
      · refine q_iload_n hG rfl rfl ?_
        refine q_bipush (v := 110) hG rfl rfl ?_
        refine q_icmp_eq hG rfl ⟨by omega, by omega⟩ ⟨by omega, by omega⟩ (fun hc83 => ?_) (fun hc83 => ?_)
        · exact j113 () (by omega)
        · refine q_iload_n hG rfl rfl ?_
          refine q_bipush (v := 112) hG rfl rfl ?_
          refine q_icmp_eq hG rfl ⟨by omega, by omega⟩ ⟨by omega, by omega⟩ (fun hc89 => ?_) (fun hc89 => ?_)
          · exact j113 () (by omega)
          · refine q_iload_n hG rfl rfl ?_
            refine q_bipush (v := 115) hG rfl rfl ?_
            refine q_icmp_eq hG rfl ⟨by omega, by omega⟩ ⟨by omega, by omega⟩ (fun hc95 => ?_) (fun hc95 => ?_)
            · exact j113 () (by omega)
            · refine q_iload_n hG rfl rfl ?_
              refine q_bipush (v := 114) hG rfl rfl ?_
              refine q_icmp_eq hG rfl ⟨by omega, by omega⟩ ⟨by omega, by omega⟩ (fun hc101 => ?_) (fun hc101 => ?_)
              · exact j113 () (by omega)
              · refine q_aload_n hG rfl rfl ?_
                refine q_aload_n hG rfl rfl ?_
                refine q_getI0v (v := (p : Int)) hG rfl (by assumption) (by rw [st_row _ _ (by omega)]; exact qZ.2.1) ?_
                refine q_putI0 hG rfl (by assumption) ?_
                refine q_vret hG rfl ?_
                have eV : vb l p = (4, fBind) := by
                  unfold vb
                  rw [← hf]
                  rw [if_neg (by omega), if_neg (by omega), if_neg (by omega), if_neg (by omega), if_neg (by omega), if_neg (by omega)]
                have eC : cm l p = (false, p, [], 0) := by
                  rw [cm_of eV]
                  show (fBind.tail).foldl (stp l) (stp l (true, p, [], 0) 68) = _
                  rw [stp_D0 (by rw [← hf]; exact hd)]
                  exact fold_f _ rfl
                rw [eC, eV] at hp
                have qy := (qZ.cell (j := t) (z := f))
                exact hp _ ⟨qy.1.h (hfr.st (Or.inr rfl)), by rw [st_ne _ _ (by omega)]; exact qy.2.1, by rw [st_same]; exact (if_neg Bool.false_ne_true).symm, qy.2.2.2⟩ (fun z => absurd z Bool.false_ne_true) (fun j hj => by rw [st_row _ _ (by omega), st_ne _ _ (by omega)]; exact cZ j (by omega)) (by rw [st_ne _ _ (by omega), st_row _ _ (by omega)]; exact mZ) ((gZ.trans hfC.cell.M).trans (hfM.st (Or.inr (Or.inl rfl))))
