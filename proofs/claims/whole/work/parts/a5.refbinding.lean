/-! the reference reads commands -/
theorem stp_t {l : List Int} {s : PS} {c : Int} (h : (stp l s c).1 = true) : s.1 = true := by
  cases e : s.1
  · rw [stp_f e, e] at h; exact h
  · rfl
theorem stp_lit {l : List Int} {s : PS} {c : Int} (h1 : c ≠ 68) (h2 : c ≠ 78) : (stp l s c).2.2.1 = s.2.2.1 := by
  unfold stp
  by_cases h0 : s.1 = false
  · rw [if_pos h0]
  · rw [if_neg h0, if_neg h1, if_neg h2]
    by_cases h3 : c = 75
    · rw [if_pos h3]; split <;> rfl
    · rw [if_neg h3]; split <;> rfl
theorem stp_kd {l : List Int} {s : PS} {c : Int} (h : c ≠ 75) : (stp l s c).2.2.2 = s.2.2.2 := by
  unfold stp
  by_cases h0 : s.1 = false
  · rw [if_pos h0]
  · rw [if_neg h0]
    by_cases h1 : c = 68
    · rw [if_pos h1]; split <;> rfl
    · rw [if_neg h1]
      by_cases h2 : c = 78
      · rw [if_pos h2]
        split
        · split <;> rfl
        · rfl
      · rw [if_neg h2, if_neg h]
        split <;> rfl
/-- the place, the error and the commands change -/
def hfC (I J : IM) (m : Nat) : Prop := (∀ a, a ≠ m → a ≠ m + 5 → J a = I a) ∧ ∀ k, k ≠ 17 → k ≠ 18 → J m k = I m k
theorem hfr.C {I J : IM} {m : Nat} (h : hfr I J m) : hfC I J m := ⟨fun a p _ => h.1 a p, h.2⟩
theorem hfC.trans {I J K : IM} {m : Nat} (h : hfC I J m) (h2 : hfC J K m) : hfC I K m := ⟨fun a p q => (h2.1 a p q).trans (h.1 a p q), fun k p q => (h2.2 k p q).trans (h.2 k p q)⟩
theorem hfC.cell {I : IM} {m j : Nat} {z : Int} : hfC I (st I (m + 5) j z) m := ⟨fun a _ q => st_row _ _ q, fun k _ _ => by rw [st_row _ _ (by omega)]⟩
theorem rqS.mv {I J : IM} {m : Nat} {l : List Int} {s : PS} (h : rqS I m l s) (h1 : J m = I m) (h2 : J (m + 4) = I (m + 4)) : rqS J m l s := by
  obtain ⟨a, b, c, d⟩ := h
  exact ⟨a.mv (by rw [h1]) h2, by rw [h1]; exact b, by rw [h1]; exact c, d⟩
theorem rqS.cell {I : IM} {m : Nat} {l : List Int} {s : PS} (h : rqS I m l s) {j : Nat} {z : Int} : rqS (st I (m + 5) j z) m l s := h.mv (st_row _ _ (by omega)) (st_row _ _ (by omega))

theorem s_R_behind1 {d : Nat} {B : HP} {I : IM} {Post : Out → HP → Prop} {m : Nat} (hm : oM B m) {l : List Int} {s : PS} (hs : rqS I m l s) {c : Int} (hc : 0 ≤ c ∧ c < 128) (hc2 : c ≠ 68 ∧ c ≠ 78 ∧ c ≠ 75) (hp : ∀ (J : IM) (z : Int), rqS J m l (stp l (stp l s c) 68) → hfr I J m → ((stp l (stp l s c) 68).1 = true → (stp l (stp l s c) 68).2.2.1 = s.2.2.1 ++ [z]) → Post (.inl (some (.int (i3 z)))) (wI B J)) : Sp (d + 3) k_X9_behind [.ref m, .int (i3 (c)), .int (i3 (1))] (wI B I) Post := by
  refine Sp_intro md_X9_behind rfl rfl (fun G hG => ?_)
  have hm0 := hm
  obtain ⟨n1, n2, n3, n4, n5, n6, n7, n8, n9, n10, n11⟩ := hm
  have hs0 := hs
  show G 0 [some (.ref m), some (.int (i3 (c))), some (.int (i3 (1)))] [] (wI B I)
  refine q_aload_n hG rfl rfl ?_
  refine q_iload_n hG rfl rfl ?_
  refine q_callV6 hG rfl rfl rfl (by assumption) (s_R_needs hm0 hs0 hc hc2 (fun J1 r1 f1 => ?_))
  refine q_aload_n hG rfl rfl ?_
  refine q_iload_n hG rfl rfl ?_
  refine q_callV6 hG rfl rfl rfl (by assumption) (s_R_number1 hm0 r1 (fun J2 z r2 f2 e2 => ?_))
  refine q_iret0 hG rfl rfl ?_
  exact hp J2 z r2 (f1.trans f2) (fun q => by rw [e2 q, stp_lit hc2.1 hc2.2.1])
theorem s_R_behind2 {d : Nat} {B : HP} {I : IM} {Post : Out → HP → Prop} {m : Nat} (hm : oM B m) {l : List Int} {s : PS} (hs : rqS I m l s) {c : Int} (hc : 0 ≤ c ∧ c < 128) (hc2 : c ≠ 68 ∧ c ≠ 78 ∧ c ≠ 75) (hp : ∀ (J : IM) (z : Int), rqS J m l (stp l (stp l s c) 78) → hfr I J m → ((stp l (stp l s c) 78).1 = true → (stp l (stp l s c) 78).2.2.1 = s.2.2.1 ++ [z]) → Post (.inl (some (.int (i3 z)))) (wI B J)) : Sp (d + 3) k_X9_behind [.ref m, .int (i3 (c)), .int (i3 (2))] (wI B I) Post := by
  refine Sp_intro md_X9_behind rfl rfl (fun G hG => ?_)
  have hm0 := hm
  obtain ⟨n1, n2, n3, n4, n5, n6, n7, n8, n9, n10, n11⟩ := hm
  have hs0 := hs
  show G 0 [some (.ref m), some (.int (i3 (c))), some (.int (i3 (2)))] [] (wI B I)
  refine q_aload_n hG rfl rfl ?_
  refine q_iload_n hG rfl rfl ?_
  refine q_callV6 hG rfl rfl rfl (by assumption) (s_R_needs hm0 hs0 hc hc2 (fun J1 r1 f1 => ?_))
  refine q_aload_n hG rfl rfl ?_
  refine q_iload_n hG rfl rfl ?_
  refine q_callV6 hG rfl rfl rfl (by assumption) (s_R_number2 hm0 r1 (fun J2 z r2 f2 e2 => ?_))
  refine q_iret0 hG rfl rfl ?_
  exact hp J2 z r2 (f1.trans f2) (fun q => by rw [e2 q, stp_lit hc2.1 hc2.2.1])
theorem s_R_letters {d : Nat} {B : HP} {I : IM} {Post : Out → HP → Prop} {m : Nat} (hm : oM B m) {l : List Int} {s : PS} (hs : rqS I m l s) {a b c : Int} (ha : (0 ≤ a ∧ a < 128) ∧ a ≠ 68 ∧ a ≠ 78 ∧ a ≠ 75) (hb : (0 ≤ b ∧ b < 128) ∧ b ≠ 68 ∧ b ≠ 78 ∧ b ≠ 75) (hc : (0 ≤ c ∧ c < 128) ∧ c ≠ 68 ∧ c ≠ 78 ∧ c ≠ 75) (hp : ∀ J : IM, rqS J m l (stp l (stp l (stp l s a) b) c) → hfr I J m → Post (.inl none) (wI B J)) : Sp (d + 3) k_X9_letters [.ref m, .int (i3 (a)), .int (i3 (b)), .int (i3 (c))] (wI B I) Post := by
  refine Sp_intro md_X9_letters rfl rfl (fun G hG => ?_)
  have hm0 := hm
  obtain ⟨n1, n2, n3, n4, n5, n6, n7, n8, n9, n10, n11⟩ := hm
  have hs0 := hs
  show G 0 [some (.ref m), some (.int (i3 (a))), some (.int (i3 (b))), some (.int (i3 (c)))] [] (wI B I)
  refine q_aload_n hG rfl rfl ?_
  refine q_iload_n hG rfl rfl ?_
  refine q_callV6 hG rfl rfl rfl (by assumption) (s_R_needs hm0 hs0 ha.1 ha.2 (fun J1 r1 f1 => ?_))
  refine q_aload_n hG rfl rfl ?_
  refine q_iload_n hG rfl rfl ?_
  refine q_callV6 hG rfl rfl rfl (by assumption) (s_R_needs hm0 r1 hb.1 hb.2 (fun J2 r2 f2 => ?_))
  refine q_aload_n hG rfl rfl ?_
  refine q_iload_n hG rfl rfl ?_
  refine q_callV6 hG rfl rfl rfl (by assumption) (s_R_needs hm0 r2 hc.1 hc.2 (fun J3 r3 f3 => ?_))
  refine q_vret hG rfl ?_
  exact hp J3 r3 ((f1.trans f2).trans f3)
theorem s_R_range {d : Nat} {B : HP} {I : IM} {Post : Out → HP → Prop} {m : Nat} (hm : oM B m) {l : List Int} {s : PS} (hs : rqS I m l s) {t : Nat} (ht : t + 1 < 244) (hp : ∀ (J : IM) (z1 z2 : Int), rqS J m l (stp l (stp l (stp l (stp l s 32) 78) 45) 78) → ((stp l (stp l (stp l (stp l s 32) 78) 45) 78).1 = true → (stp l (stp l (stp l (stp l s 32) 78) 45) 78).2.2.1 = s.2.2.1 ++ [z1] ++ [z2]) → J (m + 5) t = z1 → J (m + 5) (t + 1) = z2 → (∀ j, j ≠ t → j ≠ t + 1 → J (m + 5) j = I (m + 5) j) → hfC I J m → Post (.inl none) (wI B J)) : Sp (d + 4) k_X9_range [.ref m, .int (i3 ((t : Int)))] (wI B I) Post := by
  refine Sp_intro md_X9_range rfl rfl (fun G hG => ?_)
  have hm0 := hm
  obtain ⟨n1, n2, n3, n4, n5, n6, n7, n8, n9, n10, n11⟩ := hm
  have hs0 := hs
  show G 0 [some (.ref m), some (.int (i3 ((t : Int))))] [] (wI B I)
  refine q_aload_n hG rfl rfl ?_
  refine q_getR hG rfl (by assumption) (by assumption) ?_
  refine q_iload_n hG rfl rfl ?_
  refine q_aload_n hG rfl rfl ?_
  refine q_bipush (v := 32) hG rfl rfl ?_
  refine q_iconst (v := 2) hG rfl rfl ?_
  refine q_callV6 hG rfl rfl rfl (by assumption) (s_R_behind2 hm0 hs0 ⟨by decide, by decide⟩ ⟨by decide, by decide, by decide⟩ (fun J1 z1 r1 f1 e1 => ?_))
  refine q_iast hG rfl (by assumption) ⟨by omega, by omega, by omega⟩ ?_
  rw [show (t : Int).toNat = t by omega]
  refine q_aload_n hG rfl rfl ?_
  refine q_getR hG rfl (by assumption) (by assumption) ?_
  refine q_iload_n hG rfl rfl ?_
  refine q_iconst (v := 1) hG rfl rfl ?_
  refine q_iadd hG rfl ?_
  refine q_aload_n hG rfl rfl ?_
  refine q_bipush (v := 45) hG rfl rfl ?_
  refine q_iconst (v := 2) hG rfl rfl ?_
  refine q_callV6 hG rfl rfl rfl (by assumption) (s_R_behind2 hm0 (r1.cell (j := t) (z := z1)) ⟨by decide, by decide⟩ ⟨by decide, by decide, by decide⟩ (fun J2 z2 r2 f2 e2 => ?_))
  refine q_iast hG rfl (by assumption) ⟨by omega, by omega, by omega⟩ ?_
  refine q_vret hG rfl ?_
  rw [show ((t : Int) + 1).toNat = t + 1 by omega]
  refine hp _ z1 z2 r2.cell (fun q => ?_) ?_ (st_same _ _ _ _) (fun j h1 h2 => ?_) (((f1.C.trans hfC.cell).trans f2.C).trans hfC.cell)
  · rw [e2 q, e1 (stp_t (stp_t q))]
  · rw [st_ne _ _ (by omega), f2.1 _ (by omega), st_same]
  · rw [st_ne _ _ (by omega), f2.1 _ (by omega), st_ne _ _ (by omega), f1.1 _ (by omega)]
/-- numbers among the commands -/
def nsM (J : IM) (m t : Nat) (ns : List Int) : Prop := ∀ z, z < ns.length → J (m + 5) (t + 1 + z) = ns.getD z 0
theorem nsM.three {J : IM} {m t : Nat} {a b c : Int} (h1 : J (m + 5) (t + 1) = a) (h2 : J (m + 5) (t + 2) = b) (h3 : J (m + 5) (t + 3) = c) : nsM J m t [a, b, c] := fun z hz => by
  have hz : z < 3 := hz
  rcases (show z = 0 ∨ z = 1 ∨ z = 2 by omega) with e | e | e
  · subst e; exact h1
  · subst e; exact h2
  · subst e; exact h3
theorem nsM.two {J : IM} {m t : Nat} {a b : Int} (h1 : J (m + 5) (t + 1) = a) (h2 : J (m + 5) (t + 2) = b) : nsM J m t [a, b] := fun z hz => by
  have hz : z < 2 := hz
  rcases (show z = 0 ∨ z = 1 by omega) with e | e
  · subst e; exact h1
  · subst e; exact h2
theorem nsM.one {J : IM} {m t : Nat} {a : Int} (h1 : J (m + 5) (t + 1) = a) : nsM J m t [a] := fun z hz => by
  have hz : z < 1 := hz
  have e : z = 0 := by omega
  subst e; exact h1
theorem s_R_binding {d : Nat} {B : HP} {I : IM} {Post : Out → HP → Prop} {m : Nat} (hm : oM B m) {l : List Int} {p : Nat} (hs : rqS I m l (true, p, [], 0)) {t : Nat} (ht : t + 3 < 244) (hp : ∀ J : IM, rqS J m l (fm l p fBind) → ((fm l p fBind).1 = true → J (m + 5) t = (fm l p fBind).2.2.2 ∧ nsM J m t (fm l p fBind).2.2.1) → (∀ j, j < t → J (m + 5) j = I (m + 5) j) → hfC I J m → Post (.inl none) (wI B J)) : Sp (d + 5) k_X9_binding [.ref m, .int (i3 ((t : Int)))] (wI B I) Post := by
  refine Sp_intro md_X9_binding rfl rfl (fun G hG => ?_)
  have hm0 := hm
  obtain ⟨n1, n2, n3, n4, n5, n6, n7, n8, n9, n10, n11⟩ := hm
  have hs0 := hs
  have eF : fm l p fBind = stp l (stp l (stp l (stp l (stp l ((true, p, ([] : List Int), (0 : Int))) 68) 75) 68) 43) 78 := rfl
  have et : (t : Int).toNat = t := by omega
  have et1 : ((t : Int) + 1).toNat = t + 1 := by omega
  have et2 : ((t : Int) + 2).toNat = t + 2 := by omega
  have et3 : ((t : Int) + 3).toNat = t + 3 := by omega
  show G 0 [some (.ref m), some (.int (i3 ((t : Int)))), none] [] (wI B I)
  refine q_aload_n hG rfl rfl ?_
  refine q_getR hG rfl (by assumption) (by assumption) ?_
  refine q_iload_n hG rfl rfl ?_
  refine q_iconst (v := 1) hG rfl rfl ?_
  refine q_iadd hG rfl ?_
  refine q_aload_n hG rfl rfl ?_
  refine q_iconst (v := 1) hG rfl rfl ?_
  refine q_callV6 hG rfl rfl rfl (by assumption) (s_R_number1 hm0 hs0 (fun J1 z1 r1 f1 e1 => ?_))
  refine q_iast hG rfl (by assumption) ⟨by omega, by omega, by omega⟩ ?_
  rw [et1]
  generalize hS1 : stp l ((true, p, ([] : List Int), (0 : Int))) 68 = s1 at eF r1 e1
  obtain ⟨k1, p1, ns1, kd1⟩ := s1
  have q1 : rqS (st J1 (m + 5) (t + 1) z1) m l (k1, p1, ns1, kd1) := r1.cell
  have g1 : hfC I (st J1 (m + 5) (t + 1) z1) m := f1.C.trans hfC.cell
  have hcell1 : ∀ j, j < t → (st J1 (m + 5) (t + 1) z1) (m + 5) j = I (m + 5) j := fun j hj => by rw [st_ne _ _ (by omega), f1.1 _ (by omega)]
  have hsb := sg_bd q1.1.2.2.1 p1
  have hlt : (k1 = true ∧ (st J1 (m + 5) (t + 1) z1) m 18 = -1) ∨ (k1 = false ∧ (st J1 (m + 5) (t + 1) z1) m 18 = (p1 : Int)) := q1.lt
  have hp61 : p1 ≤ 61 := q1.2.2.2
  have q17 : (st J1 (m + 5) (t + 1) z1) m 17 = (p1 : Int) := q1.2.1
  have hr18 : r32 ((st J1 (m + 5) (t + 1) z1) m 18) := by rcases hlt with ⟨-, z⟩ | ⟨-, z⟩ <;> rw [z] <;> exact ⟨by omega, by omega⟩
  refine q_aload_n hG rfl rfl ?_
  refine q_callV6 hG rfl rfl rfl (by assumption) (s_R_sign (p := p1) hm0 q1.1 q17 hp61 ?_)
  refine q_istore_n hG rfl rfl ?_
  refine q_aload_n hG rfl rfl ?_
  refine q_getI0v (v := (st J1 (m + 5) (t + 1) z1) m 18) hG rfl (by assumption) rfl ?_
  refine q_if_ge hG rfl (hr18) (fun hc22 => ?_) (fun hc22 => ?_)
  · refine q_aload_n hG rfl rfl ?_
    refine q_getI0v (v := (st J1 (m + 5) (t + 1) z1) m 18) hG rfl (by assumption) rfl ?_
    refine q_if_lt hG rfl (by first | exact hr18 | exact ⟨by omega, by omega⟩) (fun hc44 => absurd hc44 (by omega)) (fun hc44 => ?_)
    refine q_vret hG rfl ?_
    have hk1 : k1 = false := by
      rcases hlt with ⟨-, q⟩ | ⟨q, -⟩
      · omega
      · exact q
    subst hk1
    have e : fm l p fBind = (false, p1, ns1, kd1) := by rw [eF]; exact fold_f (l := l) [75, 68, 43, 78] (s := (false, p1, ns1, kd1)) rfl
    rw [e] at hp
    exact hp _ q1 (fun z => absurd z Bool.false_ne_true) hcell1 g1
  · refine q_iload_n hG rfl rfl ?_
    refine q_callS0 hG rfl rfl rfl (s_R_isKind ⟨by omega, by omega⟩ (fun hk => ?_) (fun hk => ?_))
    · refine q_if_ne hG rfl ⟨by omega, by omega⟩ (fun _ => ?_) (fun q => absurd (by decide) q)
      refine q_aload_n hG rfl rfl ?_
      refine q_getI0v (v := (st J1 (m + 5) (t + 1) z1) m 18) hG rfl (by assumption) rfl ?_
      refine q_if_lt hG rfl (by first | exact hr18 | exact ⟨by omega, by omega⟩) (fun hc44 => ?_) (fun hc44 => absurd (by omega) hc44)
      have ok1 : k1 = true := by
        rcases hlt with ⟨q, -⟩ | ⟨-, q⟩
        · exact q
        · omega
      subst ok1
      obtain ⟨a1, a2, a3, a4⟩ := id q1
      have e2 : stp l (true, p1, ns1, kd1) 75 = (true, p1 + 1, ns1, sg l p1) := stp_K1 hk
      rw [e2] at eF
      have h60 := sg_60 a1.2.2.2 (p := p1) (by omega)
      have q2 : rqS (st (st J1 (m + 5) (t + 1) z1) m 17 ((p1 : Int) + 1)) m l (true, p1 + 1, ns1, sg l p1) := ⟨a1.h (hfr.st (Or.inl rfl)), by rw [st_same]; show (p1 : Int) + 1 = ((p1 + 1 : Nat) : Int); omega, by rw [st_ne _ _ (by omega)]; exact q1.ok rfl, by show p1 + 1 ≤ 61; omega⟩
      have g2 : hfC I (st (st J1 (m + 5) (t + 1) z1) m 17 ((p1 : Int) + 1)) m := g1.trans (hfr.st (Or.inl rfl)).C
      refine q_aload_n hG rfl rfl ?_
      refine q_dup hG rfl rfl ?_
      refine q_getI0v (v := (p1 : Int)) hG rfl (by assumption) (q17) ?_
      refine q_iconst (v := 1) hG rfl rfl ?_
      refine q_iadd hG rfl ?_
      refine q_putI0 hG rfl (by assumption) ?_
      refine q_aload_n hG rfl rfl ?_
      refine q_getR hG rfl (by assumption) (by assumption) ?_
      refine q_iload_n hG rfl rfl ?_
      refine q_iload_n hG rfl rfl ?_
      refine q_iast hG rfl (by assumption) ⟨by omega, by omega, by omega⟩ ?_
      rw [et]
      have q3 := q2.cell (j := t) (z := sg l p1)
      have g3 := g2.trans (hfC.cell (j := t) (z := sg l p1))
      refine q_aload_n hG rfl rfl ?_
      refine q_getR hG rfl (by assumption) (by assumption) ?_
      refine q_iload_n hG rfl rfl ?_
      refine q_iconst (v := 2) hG rfl rfl ?_
      refine q_iadd hG rfl ?_
      refine q_aload_n hG rfl rfl ?_
      refine q_iconst (v := 1) hG rfl rfl ?_
      refine q_callV6 hG rfl rfl rfl (by assumption) (s_R_number1 hm0 q3 (fun J4 z2 r4 f4 e4 => ?_))
      refine q_iast hG rfl (by assumption) ⟨by omega, by omega, by omega⟩ ?_
      rw [et2]
      have q4 := r4.cell (j := t + 2) (z := z2)
      have g4 := (g3.trans f4.C).trans (hfC.cell (j := t + 2) (z := z2))
      refine q_aload_n hG rfl rfl ?_
      refine q_getR hG rfl (by assumption) (by assumption) ?_
      refine q_iload_n hG rfl rfl ?_
      refine q_iconst (v := 3) hG rfl rfl ?_
      refine q_iadd hG rfl ?_
      refine q_aload_n hG rfl rfl ?_
      refine q_bipush (v := 43) hG rfl rfl ?_
      refine q_iconst (v := 2) hG rfl rfl ?_
      refine q_callV6 hG rfl rfl rfl (by assumption) (s_R_behind2 hm0 q4 ⟨by decide, by decide⟩ ⟨by decide, by decide, by decide⟩ (fun J5 z3 r5 f5 e5 => ?_))
      refine q_iast hG rfl (by assumption) ⟨by omega, by omega, by omega⟩ ?_
      rw [et3]
      refine q_vret hG rfl ?_
      have eN : ns1 = [z1] := e1 rfl
      subst eN
      rw [eF] at hp
      refine hp _ r5.cell (fun z => ⟨?_, ?_⟩) (fun j hj => ?_) ((g4.trans f5.C).trans hfC.cell)
      · rw [st_ne _ _ (by omega), f5.1 _ (by omega), st_ne _ _ (by omega), f4.1 _ (by omega), st_same, stp_kd (by decide), stp_kd (by decide), stp_kd (by decide)]
      · rw [e5 z, e4 (stp_t (stp_t z))]
        refine nsM.three ?_ ?_ (st_same _ _ _ _)
        · rw [st_ne _ _ (by omega), f5.1 _ (by omega), st_ne _ _ (by omega), f4.1 _ (by omega), st_ne _ _ (by omega), st_row _ _ (by omega), st_same]
        · rw [st_ne _ _ (by omega), f5.1 _ (by omega), st_same]
      · rw [st_ne _ _ (by omega), f5.1 _ (by omega), st_ne _ _ (by omega), f4.1 _ (by omega), st_ne _ _ (by omega), st_row _ _ (by omega)]
        exact hcell1 j hj
    · refine q_if_ne hG rfl ⟨by omega, by omega⟩ (fun q => absurd q (by decide)) (fun _ => ?_)
      refine q_aload_n hG rfl rfl ?_
      refine q_aload_n hG rfl rfl ?_
      refine q_getI0v (v := (p1 : Int)) hG rfl (by assumption) (q17) ?_
      refine q_putI0 hG rfl (by assumption) ?_
      refine q_aload_n hG rfl rfl ?_
      refine q_getI0v (v := (p1 : Int)) hG rfl (by assumption) (st_same _ _ _ _) ?_
      refine q_if_lt hG rfl (by first | exact hr18 | exact ⟨by omega, by omega⟩) (fun hc44 => absurd hc44 (by omega)) (fun hc44 => ?_)
      refine q_vret hG rfl ?_
      have hk1 : k1 = true := by
        rcases hlt with ⟨q, -⟩ | ⟨-, q⟩
        · exact q
        · omega
      subst hk1
      have e : fm l p fBind = (false, p1, ns1, kd1) := by rw [eF, stp_K0 hk]; exact fold_f (l := l) [68, 43, 78] (s := (false, p1, ns1, kd1)) rfl
      rw [e] at hp
      exact hp _ ⟨q1.1.h (hfr.st (Or.inr rfl)), by rw [st_ne _ _ (by omega)]; exact q1.2.1, by rw [st_same]; exact (if_neg Bool.false_ne_true).symm, hp61⟩ (fun z => absurd z Bool.false_ne_true) (fun j hj => by rw [st_row _ _ (by omega)]; exact hcell1 j hj) (g1.trans (hfr.st (Or.inr rfl)).C)
