/-! the reference reads: signs, numbers -/
/-- a state of the reference's reading -/
def rqS (I : IM) (m : Nat) (l : List Int) (s : PS) : Prop := inR I m l ∧ I m 17 = (s.2.1 : Int) ∧ I m 18 = (if s.1 = true then -1 else (s.2.1 : Int)) ∧ s.2.1 ≤ 61
/-- the place and the error alone change -/
def hfr (I J : IM) (m : Nat) : Prop := (∀ a, a ≠ m → J a = I a) ∧ ∀ k, k ≠ 17 → k ≠ 18 → J m k = I m k
theorem hfr.refl (I : IM) (m : Nat) : hfr I I m := ⟨fun _ _ => rfl, fun _ _ _ => rfl⟩
theorem hfr.trans {I J K : IM} {m : Nat} (h : hfr I J m) (h2 : hfr J K m) : hfr I K m := ⟨fun a p => (h2.1 a p).trans (h.1 a p), fun k p q => (h2.2 k p q).trans (h.2 k p q)⟩
theorem hfr.st {I : IM} {m k : Nat} {z : Int} (hk : k = 17 ∨ k = 18) : hfr I (st I m k z) m := ⟨fun a p => st_row _ _ p, fun j p q => st_ne _ _ (by omega)⟩
theorem inR.mv {I J : IM} {m : Nat} {l : List Int} (h : inR I m l) (h1 : J m 16 = I m 16) (h2 : J (m + 4) = I (m + 4)) : inR J m l := by
  unfold inR
  rw [h1, h2]
  exact h
theorem inR.h {I J : IM} {m : Nat} {l : List Int} (h : inR I m l) (hf : hfr I J m) : inR J m l := h.mv (hf.2 16 (by decide) (by decide)) (hf.1 _ (by omega))
theorem rqS.go {I J : IM} {m : Nat} {l : List Int} {s s2 : PS} (h : rqS I m l s) (hf : hfr I J m) (h1 : J m 17 = (s2.2.1 : Int)) (h2 : J m 18 = (if s2.1 = true then -1 else (s2.2.1 : Int))) (h3 : s2.2.1 ≤ 61) : rqS J m l s2 := ⟨h.1.h hf, h1, h2, h3⟩
theorem rqS.ok {I : IM} {m : Nat} {l : List Int} {s : PS} (h : rqS I m l s) (e : s.1 = true) : I m 18 = -1 := by rw [h.2.2.1, if_pos e]
theorem rqS.no {I : IM} {m : Nat} {l : List Int} {s : PS} (h : rqS I m l s) (e : s.1 = false) : I m 18 = (s.2.1 : Int) := by rw [h.2.2.1, if_neg (by rw [e]; decide)]
theorem rqS.lt {I : IM} {m : Nat} {l : List Int} {s : PS} (h : rqS I m l s) : (s.1 = true ∧ I m 18 = -1) ∨ (s.1 = false ∧ I m 18 = (s.2.1 : Int)) := by
  cases e : s.1
  · exact Or.inr ⟨rfl, h.no e⟩
  · exact Or.inl ⟨rfl, h.ok e⟩
theorem sg_60 {l : List Int} (h : l.length ≤ 60) {p : Nat} (hp : sg l p ≠ -1) : p < 60 := by have := sg_lt hp; omega

theorem s_R_sign {d : Nat} {B : HP} {I : IM} {Post : Out → HP → Prop} {m : Nat} (hm : oM B m) {l : List Int} (hi : inR I m l) {p : Nat} (hp9 : I m 17 = (p : Int)) (hp8 : p ≤ 61) (hp : Post (.inl (some (.int (i3 (sg l p))))) (wI B I)) : Sp (d + 1) k_X9_sign [.ref m] (wI B I) Post := by
  refine Sp_intro md_X9_sign rfl rfl (fun G hG => ?_)
  have hm0 := hm
  obtain ⟨n1, n2, n3, n4, n5, n6, n7, n8, n9, n10, n11⟩ := hm
  obtain ⟨i1, i2, i3e, i4⟩ := hi
  show G 0 [some (.ref m)] [] (wI B I)
  refine q_aload_n hG rfl rfl ?_
  refine q_getI0v (v := (p : Int)) hG rfl (by assumption) (hp9) ?_
  refine q_aload_n hG rfl rfl ?_
  refine q_getI0v (v := (l.length : Int)) hG rfl (by assumption) (i1) ?_
  refine q_icmp_ge hG rfl ⟨by omega, by omega⟩ ⟨by omega, by omega⟩ (fun hc8 => ?_) (fun hc8 => ?_)
  · refine q_iconst (v := -1) hG rfl rfl ?_
    refine q_iret0 hG rfl rfl ?_
    unfold sg at hp
    first
    | (rw [if_pos (by omega)] at hp; exact hp)
    | (rw [if_neg (by omega)] at hp; exact hp)
  · refine q_aload_n hG rfl rfl ?_
    refine q_getR hG rfl (by assumption) (by assumption) ?_
    refine q_aload_n hG rfl rfl ?_
    refine q_getI0v (v := (p : Int)) hG rfl (by assumption) (hp9) ?_
    refine q_caldv (v := l.getD p 0) hG rfl (by assumption) ⟨by omega, by omega, by omega⟩ (by rw [show (p : Int).toNat = p by omega]; exact i2 p (by omega)) ?_
    refine q_goto hG rfl ?_
    refine q_iret0 hG rfl rfl ?_
    unfold sg at hp
    first
    | (rw [if_pos (by omega)] at hp; exact hp)
    | (rw [if_neg (by omega)] at hp; exact hp)
theorem s_R_needs {d : Nat} {B : HP} {I : IM} {Post : Out → HP → Prop} {m : Nat} (hm : oM B m) {l : List Int} {s : PS} (hs : rqS I m l s) {c : Int} (hc : 0 ≤ c ∧ c < 128) (hc2 : c ≠ 68 ∧ c ≠ 78 ∧ c ≠ 75) (hp : ∀ J : IM, rqS J m l (stp l s c) → hfr I J m → Post (.inl none) (wI B J)) : Sp (d + 2) k_X9_needs [.ref m, .int (i3 (c))] (wI B I) Post := by
  refine Sp_intro md_X9_needs rfl rfl (fun G hG => ?_)
  have hm0 := hm
  obtain ⟨n1, n2, n3, n4, n5, n6, n7, n8, n9, n10, n11⟩ := hm
  have hs0 := hs
  obtain ⟨h1, h2, h3, h4⟩ := hs
  obtain ⟨i1, i2, i3e, i4⟩ := id h1
  have hlt := hs0.lt
  have hp60 : ∀ p, sg l p ≠ -1 → p < 60 := fun p hp => sg_60 i4 hp
  obtain ⟨ok, p, ns, kd⟩ := s
  show G 0 [some (.ref m), some (.int (i3 (c)))] [] (wI B I)
  refine q_aload_n hG rfl rfl ?_
  refine q_getI0v (v := I m 18) hG rfl (by assumption) rfl ?_
  refine q_if_lt hG rfl (by rcases hlt with ⟨-, z⟩ | ⟨-, z⟩ <;> rw [z] <;> exact ⟨by omega, by omega⟩) (fun hc4 => ?_) (fun hc4 => ?_)
  · have eok : ok = true := by
      rcases hlt with ⟨z, -⟩ | ⟨z, z2⟩
      · exact z
      · have z2 : I m 18 = (p : Int) := z2
        omega
    subst eok
    refine q_aload_n hG rfl rfl ?_
    refine q_callV6 hG rfl rfl rfl (by assumption) (s_R_sign (p := p) hm0 h1 h2 h4 ?_)
    have hsb := sg_bd i3e p
    refine q_iload_n hG rfl rfl ?_
    refine q_icmp_eq hG rfl ⟨by omega, by omega⟩ ⟨by omega, by omega⟩ (fun hc13 => ?_) (fun hc13 => ?_)
    · refine q_aload_n hG rfl rfl ?_
      refine q_dup hG rfl rfl ?_
      refine q_getI0v (v := (p : Int)) hG rfl (by assumption) (h2) ?_
      refine q_iconst (v := 1) hG rfl rfl ?_
      refine q_iadd hG rfl ?_
      refine q_putI0 hG rfl (by assumption) ?_
      refine q_vret hG rfl ?_
      have e : stp l (true, p, ns, kd) c = (true, p + 1, ns, kd) := stp_S1 hc2.1 hc2.2.1 hc2.2.2 hc13
      rw [e] at hp
      have h60 := hp60 p (by omega)
      exact hp _ (hs0.go (hfr.st (Or.inl rfl)) (by rw [st_same]; show (p : Int) + 1 = ((p + 1 : Nat) : Int); omega) (by rw [st_ne _ _ (by omega)]; exact hs0.ok rfl) (by show p + 1 ≤ 61; omega)) (hfr.st (Or.inl rfl))
    · refine q_aload_n hG rfl rfl ?_
      refine q_aload_n hG rfl rfl ?_
      refine q_getI0v (v := (p : Int)) hG rfl (by assumption) (h2) ?_
      refine q_putI0 hG rfl (by assumption) ?_
      refine q_vret hG rfl ?_
      have e : stp l (true, p, ns, kd) c = (false, p, ns, kd) := stp_S0 hc2.1 hc2.2.1 hc2.2.2 hc13
      rw [e] at hp
      exact hp _ (hs0.go (hfr.st (Or.inr rfl)) (by rw [st_ne _ _ (by omega)]; exact h2) (by rw [st_same]; exact (if_neg Bool.false_ne_true).symm) h4) (hfr.st (Or.inr rfl))
  · refine q_vret hG rfl ?_
    rcases hlt with ⟨-, z⟩ | ⟨z, -⟩
    · omega
    · rw [stp_f z] at hp
      exact hp I hs0 (hfr.refl I m)
theorem s_R_number1 {d : Nat} {B : HP} {I : IM} {Post : Out → HP → Prop} {m : Nat} (hm : oM B m) {l : List Int} {s : PS} (hs : rqS I m l s)  (hp : ∀ (J : IM) (z : Int), rqS J m l (stp l s 68) → hfr I J m → ((stp l s 68).1 = true → (stp l s 68).2.2.1 = s.2.2.1 ++ [z]) → Post (.inl (some (.int (i3 z)))) (wI B J)) : Sp (d + 2) k_X9_number [.ref m, .int (i3 (1))] (wI B I) Post := by
  refine Sp_intro md_X9_number rfl rfl (fun G hG => ?_)
  have hm0 := hm
  obtain ⟨n1, n2, n3, n4, n5, n6, n7, n8, n9, n10, n11⟩ := hm
  have hs0 := hs
  obtain ⟨h1, h2, h3, h4⟩ := hs
  obtain ⟨i1, i2, i3e, i4⟩ := id h1
  have hlt := hs0.lt
  have hp60 : ∀ p, sg l p ≠ -1 → p < 60 := fun p hp => sg_60 i4 hp
  obtain ⟨ok, p, ns, kd⟩ := s
  show G 0 [some (.ref m), some (.int (i3 (1))), none, none] [] (wI B I)
  refine q_aload_n hG rfl rfl ?_
  refine q_getI0v (v := I m 18) hG rfl (by assumption) rfl ?_
  refine q_if_lt hG rfl (by rcases hlt with ⟨-, z⟩ | ⟨-, z⟩ <;> rw [z] <;> exact ⟨by omega, by omega⟩) (fun hc4 => ?_) (fun hc4 => ?_)
  · have eok : ok = true := by
      rcases hlt with ⟨z, -⟩ | ⟨z, z2⟩
      · exact z
      · have z2 : I m 18 = (p : Int) := z2
        omega
    subst eok
    refine q_aload_n hG rfl rfl ?_
    refine q_callV6 hG rfl rfl rfl (by assumption) (s_R_sign (p := p) hm0 h1 h2 h4 ?_)
    have hsb := sg_bd i3e p
    refine q_bipush (v := 48) hG rfl rfl ?_
    refine q_bipush (v := 57) hG rfl rfl ?_
    refine q_callS0 hG rfl rfl rfl (s_R_in ⟨by omega, by omega⟩ ⟨by omega, by omega⟩ ⟨by omega, by omega⟩ (fun dg0 => ?_) (fun dg0 => ?_))
    · have dd0 : dgP (sg l (p)) := dg0
      refine q_if_ne hG rfl ⟨by omega, by omega⟩ (fun _ => ?_) (fun q => absurd (by decide) q)
      have h60 := hp60 p (by unfold dgP at dd0; omega)
      refine q_iconst (v := 0) hG rfl rfl ?_
      refine q_istore_n hG rfl rfl ?_
      refine q_iconst (v := 0) hG rfl rfl ?_
      refine q_istore_n hG rfl rfl ?_
      refine q_iload_n hG rfl rfl ?_
      refine q_iload_n hG rfl rfl ?_
      refine q_icmp_ge hG rfl ⟨by omega, by omega⟩ ⟨by omega, by omega⟩ (fun q => absurd q (by decide)) (fun _ => ?_)
      refine q_aload_n hG rfl rfl ?_
      refine q_callV6 hG rfl rfl rfl (by assumption) (s_R_sign (p := p) hm0 h1 h2 h4 ?_)
      have hsb := sg_bd i3e p
      refine q_bipush (v := 48) hG rfl rfl ?_
      refine q_bipush (v := 57) hG rfl rfl ?_
      refine q_callS0 hG rfl rfl rfl (s_R_in ⟨by omega, by omega⟩ ⟨by omega, by omega⟩ ⟨by omega, by omega⟩ (fun dg1 => ?_) (fun dg1 => ?_))
      · have dd1 : dgP (sg l (p)) := dg1
        refine q_if_eq hG rfl ⟨by omega, by omega⟩ (fun q => absurd q (by decide)) (fun _ => ?_)
        refine q_bipush (v := 10) hG rfl rfl ?_
        refine q_iload_n hG rfl rfl ?_
        refine q_imul hG rfl ?_
        refine q_aload_n hG rfl rfl ?_
        refine q_callV6 hG rfl rfl rfl (by assumption) (s_R_sign (p := p) hm0 h1 h2 h4 ?_)
        have hsb := sg_bd i3e p
        refine q_iadd hG rfl ?_
        refine q_bipush (v := 48) hG rfl rfl ?_
        refine q_isub hG rfl ?_
        refine q_istore_n hG rfl rfl ?_
        refine q_aload_n hG rfl rfl ?_
        refine q_dup hG rfl rfl ?_
        refine q_getI0v (v := (p : Int)) hG rfl (by assumption) (h2) ?_
        refine q_iconst (v := 1) hG rfl rfl ?_
        refine q_iadd hG rfl ?_
        refine q_putI0 hG rfl (by assumption) ?_
        refine q_iinc (c := 1) hG rfl rfl rfl rfl ?_
        refine q_goto hG rfl ?_
        refine q_iload_n hG rfl rfl ?_
        refine q_iload_n hG rfl rfl ?_
        refine q_icmp_ge hG rfl ⟨by omega, by omega⟩ ⟨by omega, by omega⟩ (fun _ => ?_) (fun q => absurd (by decide) q)
        refine q_iload_n hG rfl rfl ?_
        refine q_iret0 hG rfl rfl ?_
        have e : stp l (true, p, ns, kd) 68 = (true, p + 1, ns ++ [sg l p - 48], kd) := stp_D dd0
        rw [e] at hp
        rw [show 10 * (0 : Int) + sg l p - 48 = sg l p - 48 by omega]
        exact hp _ _ (hs0.go (hfr.st (Or.inl rfl)) (by rw [st_same]; show (p : Int) + 1 = ((p + 1 : Nat) : Int); omega) (by rw [st_ne _ _ (by omega)]; exact hs0.ok rfl) (by show p + 1 ≤ 61; omega)) (hfr.st (Or.inl rfl)) (fun _ => rfl)
      · have dd1 : ¬ dgP (sg l (p)) := dg1
        refine q_if_eq hG rfl ⟨by omega, by omega⟩ (fun _ => ?_) (fun q => absurd (by decide) q)
        refine q_iload_n hG rfl rfl ?_
        refine q_iret0 hG rfl rfl ?_
        exact absurd dg0 dg1
    · have dd0 : ¬ dgP (sg l (p)) := dg0
      refine q_if_ne hG rfl ⟨by omega, by omega⟩ (fun q => absurd q (by decide)) (fun _ => ?_)
      refine q_aload_n hG rfl rfl ?_
      refine q_aload_n hG rfl rfl ?_
      refine q_getI0v (v := (p : Int)) hG rfl (by assumption) (h2) ?_
      refine q_putI0 hG rfl (by assumption) ?_
      refine q_iconst (v := 0) hG rfl rfl ?_
      refine q_iret0 hG rfl rfl ?_
      have e : stp l (true, p, ns, kd) 68 = (false, p, ns, kd) := stp_D0 dd0
      rw [e] at hp
      exact hp _ 0 (hs0.go (hfr.st (Or.inr rfl)) (by rw [st_ne _ _ (by omega)]; exact h2) (by rw [st_same]; exact (if_neg Bool.false_ne_true).symm) h4) (hfr.st (Or.inr rfl)) (fun z => absurd z Bool.false_ne_true)
  · refine q_iconst (v := 0) hG rfl rfl ?_
    refine q_iret0 hG rfl rfl ?_
    rcases hlt with ⟨-, z⟩ | ⟨z, -⟩
    · omega
    · rw [stp_f z] at hp
      exact hp I 0 hs0 (hfr.refl I m) (fun q => absurd (q.symm.trans z) (by decide))
theorem s_R_number2 {d : Nat} {B : HP} {I : IM} {Post : Out → HP → Prop} {m : Nat} (hm : oM B m) {l : List Int} {s : PS} (hs : rqS I m l s)  (hp : ∀ (J : IM) (z : Int), rqS J m l (stp l s 78) → hfr I J m → ((stp l s 78).1 = true → (stp l s 78).2.2.1 = s.2.2.1 ++ [z]) → Post (.inl (some (.int (i3 z)))) (wI B J)) : Sp (d + 2) k_X9_number [.ref m, .int (i3 (2))] (wI B I) Post := by
  refine Sp_intro md_X9_number rfl rfl (fun G hG => ?_)
  have hm0 := hm
  obtain ⟨n1, n2, n3, n4, n5, n6, n7, n8, n9, n10, n11⟩ := hm
  have hs0 := hs
  obtain ⟨h1, h2, h3, h4⟩ := hs
  obtain ⟨i1, i2, i3e, i4⟩ := id h1
  have hlt := hs0.lt
  have hp60 : ∀ p, sg l p ≠ -1 → p < 60 := fun p hp => sg_60 i4 hp
  obtain ⟨ok, p, ns, kd⟩ := s
  show G 0 [some (.ref m), some (.int (i3 (2))), none, none] [] (wI B I)
  refine q_aload_n hG rfl rfl ?_
  refine q_getI0v (v := I m 18) hG rfl (by assumption) rfl ?_
  refine q_if_lt hG rfl (by rcases hlt with ⟨-, z⟩ | ⟨-, z⟩ <;> rw [z] <;> exact ⟨by omega, by omega⟩) (fun hc4 => ?_) (fun hc4 => ?_)
  · have eok : ok = true := by
      rcases hlt with ⟨z, -⟩ | ⟨z, z2⟩
      · exact z
      · have z2 : I m 18 = (p : Int) := z2
        omega
    subst eok
    refine q_aload_n hG rfl rfl ?_
    refine q_callV6 hG rfl rfl rfl (by assumption) (s_R_sign (p := p) hm0 h1 h2 h4 ?_)
    have hsb := sg_bd i3e p
    refine q_bipush (v := 48) hG rfl rfl ?_
    refine q_bipush (v := 57) hG rfl rfl ?_
    refine q_callS0 hG rfl rfl rfl (s_R_in ⟨by omega, by omega⟩ ⟨by omega, by omega⟩ ⟨by omega, by omega⟩ (fun dg0 => ?_) (fun dg0 => ?_))
    · have dd0 : dgP (sg l (p)) := dg0
      refine q_if_ne hG rfl ⟨by omega, by omega⟩ (fun _ => ?_) (fun q => absurd (by decide) q)
      have h60 := hp60 p (by unfold dgP at dd0; omega)
      refine q_iconst (v := 0) hG rfl rfl ?_
      refine q_istore_n hG rfl rfl ?_
      refine q_iconst (v := 0) hG rfl rfl ?_
      refine q_istore_n hG rfl rfl ?_
      refine q_iload_n hG rfl rfl ?_
      refine q_iload_n hG rfl rfl ?_
      refine q_icmp_ge hG rfl ⟨by omega, by omega⟩ ⟨by omega, by omega⟩ (fun q => absurd q (by decide)) (fun _ => ?_)
      refine q_aload_n hG rfl rfl ?_
      refine q_callV6 hG rfl rfl rfl (by assumption) (s_R_sign (p := p) hm0 h1 h2 h4 ?_)
      have hsb := sg_bd i3e p
      refine q_bipush (v := 48) hG rfl rfl ?_
      refine q_bipush (v := 57) hG rfl rfl ?_
      refine q_callS0 hG rfl rfl rfl (s_R_in ⟨by omega, by omega⟩ ⟨by omega, by omega⟩ ⟨by omega, by omega⟩ (fun dg1 => ?_) (fun dg1 => ?_))
      · have dd1 : dgP (sg l (p)) := dg1
        refine q_if_eq hG rfl ⟨by omega, by omega⟩ (fun q => absurd q (by decide)) (fun _ => ?_)
        refine q_bipush (v := 10) hG rfl rfl ?_
        refine q_iload_n hG rfl rfl ?_
        refine q_imul hG rfl ?_
        refine q_aload_n hG rfl rfl ?_
        refine q_callV6 hG rfl rfl rfl (by assumption) (s_R_sign (p := p) hm0 h1 h2 h4 ?_)
        have hsb := sg_bd i3e p
        refine q_iadd hG rfl ?_
        refine q_bipush (v := 48) hG rfl rfl ?_
        refine q_isub hG rfl ?_
        refine q_istore_n hG rfl rfl ?_
        refine q_aload_n hG rfl rfl ?_
        refine q_dup hG rfl rfl ?_
        refine q_getI0v (v := (p : Int)) hG rfl (by assumption) (h2) ?_
        refine q_iconst (v := 1) hG rfl rfl ?_
        refine q_iadd hG rfl ?_
        refine q_putI0 hG rfl (by assumption) ?_
        refine q_iinc (c := 1) hG rfl rfl rfl rfl ?_
        refine q_goto hG rfl ?_
        refine q_iload_n hG rfl rfl ?_
        refine q_iload_n hG rfl rfl ?_
        refine q_icmp_ge hG rfl ⟨by omega, by omega⟩ ⟨by omega, by omega⟩ (fun q => absurd q (by decide)) (fun _ => ?_)
        refine q_aload_n hG rfl rfl ?_
        refine q_callV6 hG rfl rfl rfl (by assumption) (s_R_sign (p := p + 1) hm0 (h1.h (hfr.st (Or.inl rfl))) (by rw [st_same]; show (p : Int) + 1 = ((p + 1 : Nat) : Int); omega) (by have := hp60 p (by unfold dgP at dd0; omega); omega) ?_)
        have hsb1 := sg_bd i3e (p + 1)
        refine q_bipush (v := 48) hG rfl rfl ?_
        refine q_bipush (v := 57) hG rfl rfl ?_
        refine q_callS0 hG rfl rfl rfl (s_R_in ⟨by omega, by omega⟩ ⟨by omega, by omega⟩ ⟨by omega, by omega⟩ (fun dg2 => ?_) (fun dg2 => ?_))
        · have dd2 : dgP (sg l (p + 1)) := dg2
          refine q_if_eq hG rfl ⟨by omega, by omega⟩ (fun q => absurd q (by decide)) (fun _ => ?_)
          refine q_bipush (v := 10) hG rfl rfl ?_
          refine q_iload_n hG rfl rfl ?_
          refine q_imul hG rfl ?_
          refine q_aload_n hG rfl rfl ?_
          refine q_callV6 hG rfl rfl rfl (by assumption) (s_R_sign (p := p + 1) hm0 (h1.h (hfr.st (Or.inl rfl))) (by rw [st_same]; show (p : Int) + 1 = ((p + 1 : Nat) : Int); omega) (by have := hp60 p (by unfold dgP at dd0; omega); omega) ?_)
          have hsb1 := sg_bd i3e (p + 1)
          refine q_iadd hG rfl ?_
          refine q_bipush (v := 48) hG rfl rfl ?_
          refine q_isub hG rfl ?_
          refine q_istore_n hG rfl rfl ?_
          refine q_aload_n hG rfl rfl ?_
          refine q_dup hG rfl rfl ?_
          refine q_getI0v (v := (p : Int) + 1) hG rfl (by assumption) (st_same _ _ _ _) ?_
          refine q_iconst (v := 1) hG rfl rfl ?_
          refine q_iadd hG rfl ?_
          refine q_putI0 hG rfl (by assumption) ?_
          refine q_iinc (c := 1) hG rfl rfl rfl rfl ?_
          refine q_goto hG rfl ?_
          refine q_iload_n hG rfl rfl ?_
          refine q_iload_n hG rfl rfl ?_
          refine q_icmp_ge hG rfl ⟨by omega, by omega⟩ ⟨by omega, by omega⟩ (fun _ => ?_) (fun q => absurd (by decide) q)
          refine q_iload_n hG rfl rfl ?_
          refine q_iret0 hG rfl rfl ?_
          have e : stp l (true, p, ns, kd) 78 = (true, p + 2, ns ++ [10 * (sg l p - 48) + (sg l (p + 1) - 48)], kd) := stp_N2 dd0 dd2
          rw [e] at hp
          have h61 := hp60 (p + 1) (by unfold dgP at dd2; omega)
          rw [show 10 * (10 * (0 : Int) + sg l p - 48) + sg l (p + 1) - 48 = 10 * (sg l p - 48) + (sg l (p + 1) - 48) by omega]
          exact hp _ _ (hs0.go ((hfr.st (Or.inl rfl)).trans (hfr.st (Or.inl rfl))) (by rw [st_same]; show (p : Int) + 1 + 1 = ((p + 2 : Nat) : Int); omega) (by rw [st_ne _ _ (by omega), st_ne _ _ (by omega)]; exact hs0.ok rfl) (by show p + 2 ≤ 61; omega)) ((hfr.st (Or.inl rfl)).trans (hfr.st (Or.inl rfl))) (fun _ => rfl)
        · have dd2 : ¬ dgP (sg l (p + 1)) := dg2
          refine q_if_eq hG rfl ⟨by omega, by omega⟩ (fun _ => ?_) (fun q => absurd (by decide) q)
          refine q_iload_n hG rfl rfl ?_
          refine q_iret0 hG rfl rfl ?_
          have e : stp l (true, p, ns, kd) 78 = (true, p + 1, ns ++ [sg l p - 48], kd) := stp_N1 dd0 dd2
          rw [e] at hp
          rw [show 10 * (0 : Int) + sg l p - 48 = sg l p - 48 by omega]
          exact hp _ _ (hs0.go (hfr.st (Or.inl rfl)) (by rw [st_same]; show (p : Int) + 1 = ((p + 1 : Nat) : Int); omega) (by rw [st_ne _ _ (by omega)]; exact hs0.ok rfl) (by show p + 1 ≤ 61; omega)) (hfr.st (Or.inl rfl)) (fun _ => rfl)
      · have dd1 : ¬ dgP (sg l (p)) := dg1
        refine q_if_eq hG rfl ⟨by omega, by omega⟩ (fun _ => ?_) (fun q => absurd (by decide) q)
        refine q_iload_n hG rfl rfl ?_
        refine q_iret0 hG rfl rfl ?_
        exact absurd dg0 dg1
    · have dd0 : ¬ dgP (sg l (p)) := dg0
      refine q_if_ne hG rfl ⟨by omega, by omega⟩ (fun q => absurd q (by decide)) (fun _ => ?_)
      refine q_aload_n hG rfl rfl ?_
      refine q_aload_n hG rfl rfl ?_
      refine q_getI0v (v := (p : Int)) hG rfl (by assumption) (h2) ?_
      refine q_putI0 hG rfl (by assumption) ?_
      refine q_iconst (v := 0) hG rfl rfl ?_
      refine q_iret0 hG rfl rfl ?_
      have e : stp l (true, p, ns, kd) 78 = (false, p, ns, kd) := stp_N0 dd0
      rw [e] at hp
      exact hp _ 0 (hs0.go (hfr.st (Or.inr rfl)) (by rw [st_ne _ _ (by omega)]; exact h2) (by rw [st_same]; exact (if_neg Bool.false_ne_true).symm) h4) (hfr.st (Or.inr rfl)) (fun z => absurd z Bool.false_ne_true)
  · refine q_iconst (v := 0) hG rfl rfl ?_
    refine q_iret0 hG rfl rfl ?_
    rcases hlt with ⟨-, z⟩ | ⟨z, -⟩
    · omega
    · rw [stp_f z] at hp
      exact hp I 0 hs0 (hfr.refl I m) (fun q => absurd (q.symm.trans z) (by decide))
