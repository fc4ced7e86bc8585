/-! passes to the end -/
def cWF (I : IM) (c : Nat) : Prop := (0 ≤ I c 0 ∧ I c 0 ≤ 10) ∧ ∀ p : Nat, (p : Int) < I c 0 → (0 ≤ I (c + 3) p ∧ I (c + 3) p < 6) ∧ (0 ≤ I (c + 4) p ∧ I (c + 4) p < 6) ∧ (0 ≤ I (c + 5) p ∧ I (c + 5) p ≤ 20) ∧ (I (c + 2) p = 60 ∨ I (c + 2) p = 61 ∨ I (c + 2) p = 35) ∧ r32 (I (c + 1) p)
theorem paM_skip {c : CN} {wa : Int} {r p : Nat} {s : PT} (h : (c p).1 = 35 ∧ wa = 0) : paM c wa (r + 1) p s = paM c wa r (p + 1) s := by
  rw [paM, if_pos h]
theorem paM_conf {c : CN} {wa : Int} {r p : Nat} {s s' : PT} (h : ¬ ((c p).1 = 35 ∧ wa = 0)) (e : sp1 (c p).1 (c p).2.1 (c p).2.2.1 (c p).2.2.2 s = s') (h2 : s'.2.1 (c p).2.1 < s'.1 (c p).2.1 ∨ s'.2.1 (c p).2.2.1 < s'.1 (c p).2.2.1) : paM c wa (r + 1) p s = (s', some p) := by
  subst e
  rw [paM, if_neg h, if_pos h2]
theorem paM_step {c : CN} {wa : Int} {r p : Nat} {s s' : PT} (h : ¬ ((c p).1 = 35 ∧ wa = 0)) (e : sp1 (c p).1 (c p).2.1 (c p).2.2.1 (c p).2.2.2 s = s') (h2 : ¬ (s'.2.1 (c p).2.1 < s'.1 (c p).2.1 ∨ s'.2.1 (c p).2.2.1 < s'.1 (c p).2.2.1)) : paM c wa (r + 1) p s = paM c wa r (p + 1) s' := by
  subst e
  rw [paM, if_neg h, if_neg h2]
theorem paM_ok {c : CN} {wa : Int} {n : Nat} (hc : ∀ p, p < n → (c p).2.1 < 6 ∧ (c p).2.2.1 < 6) : ∀ (r p : Nat) (s : PT), p + r ≤ n → okB s → nrw s (paM c wa r p s).1 ∧ ((paM c wa r p s).2 = none → okB (paM c wa r p s).1) ∧ ∀ q, (paM c wa r p s).2 = some q → p ≤ q ∧ q < p + r
  | 0, p, s, _, h => ⟨nrw.refl s, fun _ => h, fun q e => by cases e⟩
  | r + 1, p, s, hn, h => by
    by_cases h1 : (c p).1 = 35 ∧ wa = 0
    · rw [paM_skip h1]
      obtain ⟨a, b, d⟩ := paM_ok hc r (p + 1) s (by omega) h
      exact ⟨a, b, fun q e => by have := d q e; omega⟩
    · obtain ⟨f1, f2⟩ := hc p (by omega)
      have n1 := sp1_n (c p).1 (c p).2.2.2 s f1 f2
      by_cases h2 : (sp1 (c p).1 (c p).2.1 (c p).2.2.1 (c p).2.2.2 s).2.1 (c p).2.1 < (sp1 (c p).1 (c p).2.1 (c p).2.2.1 (c p).2.2.2 s).1 (c p).2.1 ∨ (sp1 (c p).1 (c p).2.1 (c p).2.2.1 (c p).2.2.2 s).2.1 (c p).2.2.1 < (sp1 (c p).1 (c p).2.1 (c p).2.2.1 (c p).2.2.2 s).1 (c p).2.2.1
      · rw [paM_conf h1 rfl h2]
        exact ⟨n1, fun e => by (cases e), fun q e => by cases e; omega⟩
      · rw [paM_step h1 rfl h2]
        have o1 := okB_step h n1 (sp1_s (c p).1 (c p).2.1 (c p).2.2.1 (c p).2.2.2 s) (fun z => h2 (Or.inl z)) (fun z => h2 (Or.inr z))
        obtain ⟨a, b, d⟩ := paM_ok hc r (p + 1) _ (by omega) o1
        exact ⟨n1.trans a, b, fun q e => by have := d q e; omega⟩
noncomputable def stM (c : CN) (wa : Int) (m : Nat) : Nat → PT → Int → Option Nat × PT × Int
  | 0, s, n => (none, s, n)
  | k + 1, s, n => if (paM c wa m 0 s).2 = none then (if (paM c wa m 0 s).1.2.2 = s.2.2 then (none, (paM c wa m 0 s).1, n + 1) else stM c wa m k (paM c wa m 0 s).1 (n + 1)) else ((paM c wa m 0 s).2, (paM c wa m 0 s).1, n)
theorem cWF_6 {I : IM} {c : Nat} (h : cWF I c) : ∀ p, p < (I c 0).toNat → (cnI I c p).2.1 < 6 ∧ (cnI I c p).2.2.1 < 6 := fun p hp => by
  obtain ⟨⟨a1, a2⟩, ⟨b1, b2⟩, -⟩ := h.2 p (by omega)
  exact ⟨by show (I (c + 3) p).toNat < 6; omega, by show (I (c + 4) p).toNat < 6; omega⟩
theorem row_cn {I J : IM} {c : Nat} (h : ∀ a, c ≤ a → a ≤ c + 5 → J a = I a) : cnI J c = cnI I c := by
  funext p
  unfold cnI
  rw [h _ (by omega) (by omega), h _ (by omega) (by omega), h _ (by omega) (by omega), h _ (by omega) (by omega)]
theorem row_cWF {I J : IM} {c : Nat} (h : ∀ a, c ≤ a → a ≤ c + 5 → J a = I a) (hc : cWF I c) : cWF J c := by
  unfold cWF
  rw [h c (by omega) (by omega), h (c + 1) (by omega) (by omega), h (c + 2) (by omega) (by omega), h (c + 3) (by omega) (by omega), h (c + 4) (by omega) (by omega), h (c + 5) (by omega) (by omega)]
  exact hc

theorem s_N_begin {d : Nat} {B : HP} {I : IM} {Post : Out → HP → Prop} {w : Nat} (hw : hK B w = (15, 0)) (hp : ∀ J : IM, J w 0 = 0 → J w 1 = 0 → J w 2 = -1 → (∀ a, a ≠ w → J a = I a) → Post (.inl none) (wI B J)) : Sp (d + 1) k_X5_begin [.ref w] (wI B I) Post := by
  refine Sp_intro md_X5_begin rfl rfl (fun G hG => ?_)
  show G 0 [some (.ref w)] [] (wI B I)
  refine q_aload_n hG rfl rfl ?_
  refine q_iconst (v := 0) hG rfl rfl ?_
  refine q_putI0 hG rfl (by assumption) ?_
  refine q_aload_n hG rfl rfl ?_
  refine q_iconst (v := 0) hG rfl rfl ?_
  refine q_putI0 hG rfl (by assumption) ?_
  refine q_aload_n hG rfl rfl ?_
  refine q_iconst (v := -1) hG rfl rfl ?_
  refine q_putI0 hG rfl (by assumption) ?_
  refine q_vret hG rfl ?_
  refine hp _ ?_ ?_ ?_ (fun a ha => ?_)
  · rw [st_ne _ _ (by omega), st_ne _ _ (by omega), st_same]
  · rw [st_ne _ _ (by omega), st_same]
  · rw [st_same]
  · rw [st_row _ _ ha, st_row _ _ ha, st_row _ _ ha]
theorem s_N_pass {d : Nat} {B : HP} {I : IM} {Post : Out → HP → Prop} {t w c : Nat} {wa : Int} (hb : oB B t) (hc : oC B c) (hw : hK B w = (15, 0)) (htw : w ≠ t + 1 ∧ w ≠ t + 2) (hct : c + 5 < t + 1 ∨ t + 2 < c) (hcw : c + 5 < w ∨ w < c) (hcf : cWF I c) (hwa : wa = 0 ∨ wa = 1) (hS : okB (ntS I t w)) (p1 : ∀ J : IM, (paM (cnI I c) wa (I c 0).toNat 0 (ntS I t w)).2 = none → ntS J t w = (paM (cnI I c) wa (I c 0).toNat 0 (ntS I t w)).1 → J w 0 = I w 0 + 1 → J w 2 = I w 2 → (∀ a, a ≠ t + 1 → a ≠ t + 2 → a ≠ w → J a = I a) → Post (.inl (some (.int (i3 1)))) (wI B J)) (p0 : ∀ (J : IM) (p : Nat), (paM (cnI I c) wa (I c 0).toNat 0 (ntS I t w)).2 = some p → p < (I c 0).toNat → J w 2 = I (c + 1) p → (∀ a, a ≠ t + 1 → a ≠ t + 2 → a ≠ w → J a = I a) → Post (.inl (some (.int (i3 0)))) (wI B J)) : Sp (d + 3) k_X5_makePass [.ref w, .ref c, .ref t, .int (i3 (wa))] (wI B I) Post := by
  refine Sp_intro md_X5_makePass rfl rfl (fun G hG => ?_)
  have hb0 := hb
  have hc0 := hc
  obtain ⟨k1, k2, k3, k4, k5⟩ := hb
  obtain ⟨m1, m2, m3, m4, m5, m6, m7, m8, m9, m10, m11⟩ := hc
  have hcf0 := hcf
  obtain ⟨hn, hcf⟩ := hcf
  have lp : ∀ (m : Nat) (k : Nat) (J : IM), (I c 0).toNat - k = m → k ≤ (I c 0).toNat → nfr I J t w → okB (ntS J t w) → paM (cnI I c) wa ((I c 0).toNat - k) k (ntS J t w) = paM (cnI I c) wa (I c 0).toNat 0 (ntS I t w) → G 3 [some (.ref w), some (.ref c), some (.ref t), some (.int (i3 wa)), some (.int (i3 (k : Int)))] [] (wI B J) := by
    intro m
    induction m using Nat.strongRecOn with
    | ind m ih =>
      intro k J hme hk hfr hok hpa
      refine q_iload hG rfl rfl ?_
      refine q_aload_n hG rfl rfl ?_
      refine q_getI0v (v := I c 0) hG rfl (by assumption) (by rw [hfr.1 c (by omega) (by omega) (by omega)]) ?_
      refine q_icmp_ge hG rfl ⟨by omega, by omega⟩ ⟨by omega, by omega⟩ (fun hc9 => ?_) (fun hc9 => ?_)
      · refine q_aload_n hG rfl rfl ?_
        refine q_dup hG rfl rfl ?_
        refine q_getI0v (v := I w 0) hG rfl (by assumption) (hfr.2.1) ?_
        refine q_iconst (v := 1) hG rfl rfl ?_
        refine q_iadd hG rfl ?_
        refine q_putI0 hG rfl (by assumption) ?_
        refine q_iconst (v := 1) hG rfl rfl ?_
        refine q_iret5 hG rfl rfl (by decide) ?_
        have e0 : paM (cnI I c) wa (I c 0).toNat 0 (ntS I t w) = (ntS J t w, none) := by
          rw [← hpa, show (I c 0).toNat - k = 0 by omega]
          rfl
        refine p1 _ (by rw [e0]) ?_ (by rw [st_same]) (by rw [st_ne _ _ (by omega)]; exact hfr.2.2) (fun a p q r => by rw [st_row _ _ r]; exact hfr.1 a p q r)
        rw [e0]
        unfold ntS
        rw [st_row _ _ htw.1.symm, st_row _ _ htw.2.symm, st_ne _ _ (by omega)]
      · obtain ⟨hF, hS2, hg, hK2, -⟩ := hcf k (by omega)
        have eK2 : J (c + 2) k = I (c + 2) k := by rw [hfr.1 (c + 2) (by omega) (by omega) (by omega)]
        have eF2 : J (c + 3) k = I (c + 3) k := by rw [hfr.1 (c + 3) (by omega) (by omega) (by omega)]
        have eS2 : J (c + 4) k = I (c + 4) k := by rw [hfr.1 (c + 4) (by omega) (by omega) (by omega)]
        have eG2 : J (c + 5) k = I (c + 5) k := by rw [hfr.1 (c + 5) (by omega) (by omega) (by omega)]
        refine q_aload_n hG rfl rfl ?_
        refine q_getR hG rfl (by assumption) (by assumption) ?_
        refine q_iload hG rfl rfl ?_
        refine q_caldv (v := I (c + 2) k) hG rfl (by assumption) ⟨by omega, by omega, by omega⟩ (eK2) ?_
        refine q_bipush (v := 35) hG rfl rfl ?_
        refine q_icmp_ne hG rfl ⟨by omega, by omega⟩ ⟨by omega, by omega⟩ (fun hc21 => ?_) (fun hc21 => ?_)
        · refine q_aload_n hG rfl rfl ?_
          refine q_aload_n hG rfl rfl ?_
          refine q_iload hG rfl rfl ?_
          refine q_aload_n hG rfl rfl ?_
          refine q_callV6 hG rfl rfl rfl (by assumption) (s_N_step (p := k) hb0 hc0 hw htw hct hcw (by omega) (by rw [eF2]; exact hF) (by rw [eS2]; exact hS2) (by rw [eG2]; exact hg) (by rw [eK2]; omega) hok (fun J2 e1 h2 => ?_))
          have b2 : bdB 400 (ntS J2 t w) := by
            rw [e1]
            have b0 := okB_bd hok
            have f3 : (J (c + 3) k).toNat < 6 := by omega
            have f4 : (J (c + 4) k).toNat < 6 := by omega
            exact sp1_bd b0 f3 f4 (by rw [eG2]; exact hg)
          refine q_aload_n hG rfl rfl ?_
          refine q_aload_n hG rfl rfl ?_
          refine q_getR hG rfl (by assumption) (by assumption) ?_
          refine q_iload hG rfl rfl ?_
          refine q_ialdv (v := I (c + 3) k) hG rfl (by assumption) ⟨by omega, by omega, by omega⟩ (by show J2 (c + 3) k = _; rw [h2.1 (c + 3) (by omega) (by omega) (by omega), hfr.1 (c + 3) (by omega) (by omega) (by omega)]) ?_
          refine q_callV6 hG rfl rfl rfl (by assumption) (s_B_empty hb0 (by omega) (by have q := b2 (I (c + 3) k).toNat (by omega); exact ⟨by have : -400 ≤ J2 (t + 1) (I (c + 3) k).toNat := q.1; omega, by have : J2 (t + 1) (I (c + 3) k).toNat ≤ 400 := q.2.1; omega⟩) (by have q := b2 (I (c + 3) k).toNat (by omega); exact ⟨by have : -400 ≤ J2 (t + 2) (I (c + 3) k).toNat := q.2.2.1; omega, by have : J2 (t + 2) (I (c + 3) k).toNat ≤ 400 := q.2.2.2; omega⟩) (fun he1 => ?_) (fun he1 => ?_))
          · refine q_if_ne hG rfl ⟨by omega, by omega⟩ (fun _ => ?_) (fun q => absurd (by decide) q)
            refine q_aload_n hG rfl rfl ?_
            refine q_aload_n hG rfl rfl ?_
            refine q_getR hG rfl (by assumption) (by assumption) ?_
            refine q_iload hG rfl rfl ?_
            refine q_ialdv (v := I (c + 1) k) hG rfl (by assumption) ⟨by omega, by omega, by omega⟩ (by show J2 (c + 1) k = _; rw [h2.1 (c + 1) (by omega) (by omega) (by omega), hfr.1 (c + 1) (by omega) (by omega) (by omega)]) ?_
            refine q_putI0 hG rfl (by assumption) ?_
            refine q_iconst (v := 0) hG rfl rfl ?_
            refine q_iret5 hG rfl rfl (by decide) ?_
            have e2 : sp1 (cnI I c k).1 (cnI I c k).2.1 (cnI I c k).2.2.1 (cnI I c k).2.2.2 (ntS J t w) = ntS J2 t w := by
              rw [e1, eK2, eF2, eS2, eG2]
              rfl
            have e0 : paM (cnI I c) wa (I c 0).toNat 0 (ntS I t w) = (ntS J2 t w, some k) := by
              rw [← hpa, show (I c 0).toNat - k = (I c 0).toNat - (k + 1) + 1 by omega]
              refine paM_conf ?_ e2 ?_
              · intro z
                have z1 : I (c + 2) k = 35 := z.1
                omega
              · first
                | exact Or.inl he1
                | exact Or.inr he2
            refine p0 _ k (by rw [e0]) (by omega) (by rw [st_same]) (fun a p q r => by rw [st_row _ _ r, h2.1 a p q r, hfr.1 a p q r])
          · refine q_if_ne hG rfl ⟨by omega, by omega⟩ (fun q => absurd q (by decide)) (fun _ => ?_)
            refine q_aload_n hG rfl rfl ?_
            refine q_aload_n hG rfl rfl ?_
            refine q_getR hG rfl (by assumption) (by assumption) ?_
            refine q_iload hG rfl rfl ?_
            refine q_ialdv (v := I (c + 4) k) hG rfl (by assumption) ⟨by omega, by omega, by omega⟩ (by show J2 (c + 4) k = _; rw [h2.1 (c + 4) (by omega) (by omega) (by omega), hfr.1 (c + 4) (by omega) (by omega) (by omega)]) ?_
            refine q_callV6 hG rfl rfl rfl (by assumption) (s_B_empty hb0 (by omega) (by have q := b2 (I (c + 4) k).toNat (by omega); exact ⟨by have : -400 ≤ J2 (t + 1) (I (c + 4) k).toNat := q.1; omega, by have : J2 (t + 1) (I (c + 4) k).toNat ≤ 400 := q.2.1; omega⟩) (by have q := b2 (I (c + 4) k).toNat (by omega); exact ⟨by have : -400 ≤ J2 (t + 2) (I (c + 4) k).toNat := q.2.2.1; omega, by have : J2 (t + 2) (I (c + 4) k).toNat ≤ 400 := q.2.2.2; omega⟩) (fun he2 => ?_) (fun he2 => ?_))
            · refine q_if_eq hG rfl ⟨by omega, by omega⟩ (fun q => absurd q (by decide)) (fun _ => ?_)
              refine q_aload_n hG rfl rfl ?_
              refine q_aload_n hG rfl rfl ?_
              refine q_getR hG rfl (by assumption) (by assumption) ?_
              refine q_iload hG rfl rfl ?_
              refine q_ialdv (v := I (c + 1) k) hG rfl (by assumption) ⟨by omega, by omega, by omega⟩ (by show J2 (c + 1) k = _; rw [h2.1 (c + 1) (by omega) (by omega) (by omega), hfr.1 (c + 1) (by omega) (by omega) (by omega)]) ?_
              refine q_putI0 hG rfl (by assumption) ?_
              refine q_iconst (v := 0) hG rfl rfl ?_
              refine q_iret5 hG rfl rfl (by decide) ?_
              have e2 : sp1 (cnI I c k).1 (cnI I c k).2.1 (cnI I c k).2.2.1 (cnI I c k).2.2.2 (ntS J t w) = ntS J2 t w := by
                rw [e1, eK2, eF2, eS2, eG2]
                rfl
              have e0 : paM (cnI I c) wa (I c 0).toNat 0 (ntS I t w) = (ntS J2 t w, some k) := by
                rw [← hpa, show (I c 0).toNat - k = (I c 0).toNat - (k + 1) + 1 by omega]
                refine paM_conf ?_ e2 ?_
                · intro z
                  have z1 : I (c + 2) k = 35 := z.1
                  omega
                · first
                  | exact Or.inl he1
                  | exact Or.inr he2
              refine p0 _ k (by rw [e0]) (by omega) (by rw [st_same]) (fun a p q r => by rw [st_row _ _ r, h2.1 a p q r, hfr.1 a p q r])
            · refine q_if_eq hG rfl ⟨by omega, by omega⟩ (fun _ => ?_) (fun q => absurd (by decide) q)
              refine q_iinc (c := 1) hG rfl rfl rfl rfl ?_
              refine q_goto hG rfl ?_
              first
              | refine ih _ (by omega) (k + 1) J rfl (by omega) hfr hok (Eq.trans ?_ hpa)
                rw [show (I c 0).toNat - k = (I c 0).toNat - (k + 1) + 1 by omega, paM_skip (show (cnI I c k).1 = 35 ∧ wa = 0 from ⟨by show I (c + 2) k = 35; omega, by omega⟩)]
              | have e2 : sp1 (cnI I c k).1 (cnI I c k).2.1 (cnI I c k).2.2.1 (cnI I c k).2.2.2 (ntS J t w) = ntS J2 t w := by
                  rw [e1, eK2, eF2, eS2, eG2]
                  rfl
                have nt : ¬ ((ntS J2 t w).2.1 (cnI I c k).2.1 < (ntS J2 t w).1 (cnI I c k).2.1 ∨ (ntS J2 t w).2.1 (cnI I c k).2.2.1 < (ntS J2 t w).1 (cnI I c k).2.2.1) := by
                  intro z
                  rcases z with z | z
                  · exact he1 z
                  · exact he2 z
                have c6 := cWF_6 hcf0 k (by omega)
                refine ih _ (by omega) (k + 1) J2 rfl (by omega) (hfr.trans h2) ?_ (Eq.trans ?_ hpa)
                · rw [← e2]
                  rw [← e2] at nt
                  exact okB_step hok (sp1_n _ _ _ c6.1 c6.2) (sp1_s _ _ _ _ _) (fun z => nt (Or.inl z)) (fun z => nt (Or.inr z))
                · rw [show (I c 0).toNat - k = (I c 0).toNat - (k + 1) + 1 by omega]
                  refine (paM_step ?_ e2 nt).symm
                  intro z
                  have z1 : I (c + 2) k = 35 := z.1
                  omega
        · refine q_iload_n hG rfl rfl ?_
          refine q_if_ne hG rfl ⟨by omega, by omega⟩ (fun hc25 => ?_) (fun hc25 => ?_)
          · refine q_aload_n hG rfl rfl ?_
            refine q_aload_n hG rfl rfl ?_
            refine q_iload hG rfl rfl ?_
            refine q_aload_n hG rfl rfl ?_
            refine q_callV6 hG rfl rfl rfl (by assumption) (s_N_step (p := k) hb0 hc0 hw htw hct hcw (by omega) (by rw [eF2]; exact hF) (by rw [eS2]; exact hS2) (by rw [eG2]; exact hg) (by rw [eK2]; omega) hok (fun J2 e1 h2 => ?_))
            have b2 : bdB 400 (ntS J2 t w) := by
              rw [e1]
              have b0 := okB_bd hok
              have f3 : (J (c + 3) k).toNat < 6 := by omega
              have f4 : (J (c + 4) k).toNat < 6 := by omega
              exact sp1_bd b0 f3 f4 (by rw [eG2]; exact hg)
            refine q_aload_n hG rfl rfl ?_
            refine q_aload_n hG rfl rfl ?_
            refine q_getR hG rfl (by assumption) (by assumption) ?_
            refine q_iload hG rfl rfl ?_
            refine q_ialdv (v := I (c + 3) k) hG rfl (by assumption) ⟨by omega, by omega, by omega⟩ (by show J2 (c + 3) k = _; rw [h2.1 (c + 3) (by omega) (by omega) (by omega), hfr.1 (c + 3) (by omega) (by omega) (by omega)]) ?_
            refine q_callV6 hG rfl rfl rfl (by assumption) (s_B_empty hb0 (by omega) (by have q := b2 (I (c + 3) k).toNat (by omega); exact ⟨by have : -400 ≤ J2 (t + 1) (I (c + 3) k).toNat := q.1; omega, by have : J2 (t + 1) (I (c + 3) k).toNat ≤ 400 := q.2.1; omega⟩) (by have q := b2 (I (c + 3) k).toNat (by omega); exact ⟨by have : -400 ≤ J2 (t + 2) (I (c + 3) k).toNat := q.2.2.1; omega, by have : J2 (t + 2) (I (c + 3) k).toNat ≤ 400 := q.2.2.2; omega⟩) (fun he1 => ?_) (fun he1 => ?_))
            · refine q_if_ne hG rfl ⟨by omega, by omega⟩ (fun _ => ?_) (fun q => absurd (by decide) q)
              refine q_aload_n hG rfl rfl ?_
              refine q_aload_n hG rfl rfl ?_
              refine q_getR hG rfl (by assumption) (by assumption) ?_
              refine q_iload hG rfl rfl ?_
              refine q_ialdv (v := I (c + 1) k) hG rfl (by assumption) ⟨by omega, by omega, by omega⟩ (by show J2 (c + 1) k = _; rw [h2.1 (c + 1) (by omega) (by omega) (by omega), hfr.1 (c + 1) (by omega) (by omega) (by omega)]) ?_
              refine q_putI0 hG rfl (by assumption) ?_
              refine q_iconst (v := 0) hG rfl rfl ?_
              refine q_iret5 hG rfl rfl (by decide) ?_
              have e2 : sp1 (cnI I c k).1 (cnI I c k).2.1 (cnI I c k).2.2.1 (cnI I c k).2.2.2 (ntS J t w) = ntS J2 t w := by
                rw [e1, eK2, eF2, eS2, eG2]
                rfl
              have e0 : paM (cnI I c) wa (I c 0).toNat 0 (ntS I t w) = (ntS J2 t w, some k) := by
                rw [← hpa, show (I c 0).toNat - k = (I c 0).toNat - (k + 1) + 1 by omega]
                refine paM_conf ?_ e2 ?_
                · intro z
                  have z1 : I (c + 2) k = 35 := z.1
                  omega
                · first
                  | exact Or.inl he1
                  | exact Or.inr he2
              refine p0 _ k (by rw [e0]) (by omega) (by rw [st_same]) (fun a p q r => by rw [st_row _ _ r, h2.1 a p q r, hfr.1 a p q r])
            · refine q_if_ne hG rfl ⟨by omega, by omega⟩ (fun q => absurd q (by decide)) (fun _ => ?_)
              refine q_aload_n hG rfl rfl ?_
              refine q_aload_n hG rfl rfl ?_
              refine q_getR hG rfl (by assumption) (by assumption) ?_
              refine q_iload hG rfl rfl ?_
              refine q_ialdv (v := I (c + 4) k) hG rfl (by assumption) ⟨by omega, by omega, by omega⟩ (by show J2 (c + 4) k = _; rw [h2.1 (c + 4) (by omega) (by omega) (by omega), hfr.1 (c + 4) (by omega) (by omega) (by omega)]) ?_
              refine q_callV6 hG rfl rfl rfl (by assumption) (s_B_empty hb0 (by omega) (by have q := b2 (I (c + 4) k).toNat (by omega); exact ⟨by have : -400 ≤ J2 (t + 1) (I (c + 4) k).toNat := q.1; omega, by have : J2 (t + 1) (I (c + 4) k).toNat ≤ 400 := q.2.1; omega⟩) (by have q := b2 (I (c + 4) k).toNat (by omega); exact ⟨by have : -400 ≤ J2 (t + 2) (I (c + 4) k).toNat := q.2.2.1; omega, by have : J2 (t + 2) (I (c + 4) k).toNat ≤ 400 := q.2.2.2; omega⟩) (fun he2 => ?_) (fun he2 => ?_))
              · refine q_if_eq hG rfl ⟨by omega, by omega⟩ (fun q => absurd q (by decide)) (fun _ => ?_)
                refine q_aload_n hG rfl rfl ?_
                refine q_aload_n hG rfl rfl ?_
                refine q_getR hG rfl (by assumption) (by assumption) ?_
                refine q_iload hG rfl rfl ?_
                refine q_ialdv (v := I (c + 1) k) hG rfl (by assumption) ⟨by omega, by omega, by omega⟩ (by show J2 (c + 1) k = _; rw [h2.1 (c + 1) (by omega) (by omega) (by omega), hfr.1 (c + 1) (by omega) (by omega) (by omega)]) ?_
                refine q_putI0 hG rfl (by assumption) ?_
                refine q_iconst (v := 0) hG rfl rfl ?_
                refine q_iret5 hG rfl rfl (by decide) ?_
                have e2 : sp1 (cnI I c k).1 (cnI I c k).2.1 (cnI I c k).2.2.1 (cnI I c k).2.2.2 (ntS J t w) = ntS J2 t w := by
                  rw [e1, eK2, eF2, eS2, eG2]
                  rfl
                have e0 : paM (cnI I c) wa (I c 0).toNat 0 (ntS I t w) = (ntS J2 t w, some k) := by
                  rw [← hpa, show (I c 0).toNat - k = (I c 0).toNat - (k + 1) + 1 by omega]
                  refine paM_conf ?_ e2 ?_
                  · intro z
                    have z1 : I (c + 2) k = 35 := z.1
                    omega
                  · first
                    | exact Or.inl he1
                    | exact Or.inr he2
                refine p0 _ k (by rw [e0]) (by omega) (by rw [st_same]) (fun a p q r => by rw [st_row _ _ r, h2.1 a p q r, hfr.1 a p q r])
              · refine q_if_eq hG rfl ⟨by omega, by omega⟩ (fun _ => ?_) (fun q => absurd (by decide) q)
                refine q_iinc (c := 1) hG rfl rfl rfl rfl ?_
                refine q_goto hG rfl ?_
                first
                | refine ih _ (by omega) (k + 1) J rfl (by omega) hfr hok (Eq.trans ?_ hpa)
                  rw [show (I c 0).toNat - k = (I c 0).toNat - (k + 1) + 1 by omega, paM_skip (show (cnI I c k).1 = 35 ∧ wa = 0 from ⟨by show I (c + 2) k = 35; omega, by omega⟩)]
                | have e2 : sp1 (cnI I c k).1 (cnI I c k).2.1 (cnI I c k).2.2.1 (cnI I c k).2.2.2 (ntS J t w) = ntS J2 t w := by
                    rw [e1, eK2, eF2, eS2, eG2]
                    rfl
                  have nt : ¬ ((ntS J2 t w).2.1 (cnI I c k).2.1 < (ntS J2 t w).1 (cnI I c k).2.1 ∨ (ntS J2 t w).2.1 (cnI I c k).2.2.1 < (ntS J2 t w).1 (cnI I c k).2.2.1) := by
                    intro z
                    rcases z with z | z
                    · exact he1 z
                    · exact he2 z
                  have c6 := cWF_6 hcf0 k (by omega)
                  refine ih _ (by omega) (k + 1) J2 rfl (by omega) (hfr.trans h2) ?_ (Eq.trans ?_ hpa)
                  · rw [← e2]
                    rw [← e2] at nt
                    exact okB_step hok (sp1_n _ _ _ c6.1 c6.2) (sp1_s _ _ _ _ _) (fun z => nt (Or.inl z)) (fun z => nt (Or.inr z))
                  · rw [show (I c 0).toNat - k = (I c 0).toNat - (k + 1) + 1 by omega]
                    refine (paM_step ?_ e2 nt).symm
                    intro z
                    have z1 : I (c + 2) k = 35 := z.1
                    omega
          · refine q_goto hG rfl ?_
            refine q_iinc (c := 1) hG rfl rfl rfl rfl ?_
            refine q_goto hG rfl ?_
            first
            | refine ih _ (by omega) (k + 1) J rfl (by omega) hfr hok (Eq.trans ?_ hpa)
              rw [show (I c 0).toNat - k = (I c 0).toNat - (k + 1) + 1 by omega, paM_skip (show (cnI I c k).1 = 35 ∧ wa = 0 from ⟨by show I (c + 2) k = 35; omega, by omega⟩)]
            | have e2 : sp1 (cnI I c k).1 (cnI I c k).2.1 (cnI I c k).2.2.1 (cnI I c k).2.2.2 (ntS J t w) = ntS J2 t w := by
                rw [e1, eK2, eF2, eS2, eG2]
                rfl
              have nt : ¬ ((ntS J2 t w).2.1 (cnI I c k).2.1 < (ntS J2 t w).1 (cnI I c k).2.1 ∨ (ntS J2 t w).2.1 (cnI I c k).2.2.1 < (ntS J2 t w).1 (cnI I c k).2.2.1) := by
                intro z
                rcases z with z | z
                · exact he1 z
                · exact he2 z
              have c6 := cWF_6 hcf0 k (by omega)
              refine ih _ (by omega) (k + 1) J2 rfl (by omega) (hfr.trans h2) ?_ (Eq.trans ?_ hpa)
              · rw [← e2]
                rw [← e2] at nt
                exact okB_step hok (sp1_n _ _ _ c6.1 c6.2) (sp1_s _ _ _ _ _) (fun z => nt (Or.inl z)) (fun z => nt (Or.inr z))
              · rw [show (I c 0).toNat - k = (I c 0).toNat - (k + 1) + 1 by omega]
                refine (paM_step ?_ e2 nt).symm
                intro z
                have z1 : I (c + 2) k = 35 := z.1
                omega
  show G 0 [some (.ref w), some (.ref c), some (.ref t), some (.int (i3 (wa))), none] [] (wI B I)
  refine q_iconst (v := 0) hG rfl rfl ?_
  refine q_istore hG rfl rfl ?_
  exact lp _ 0 I rfl (by omega) (nfr.refl I t w) hS rfl
theorem s_N_end {d : Nat} {B : HP} {I : IM} {Post : Out → HP → Prop} {t w c : Nat} {wa : Int} (hb : oB B t) (hc : oC B c) (hw : hK B w = (15, 0)) (htw : w ≠ t + 1 ∧ w ≠ t + 2) (hct : c + 5 < t + 1 ∨ t + 2 < c) (hcw : c + 5 < w ∨ w < c) (hcf : cWF I c) (hwa : wa = 0 ∨ wa = 1) (hS : okB (ntS I t w)) (hch : 0 ≤ I w 1 ∧ I w 1 ≤ 1000) (p1 : ∀ J : IM, (stM (cnI I c) wa (I c 0).toNat 1000 (ntS I t w) (I w 0)).1 = none → ntS J t w = (stM (cnI I c) wa (I c 0).toNat 1000 (ntS I t w) (I w 0)).2.1 → J w 0 = (stM (cnI I c) wa (I c 0).toNat 1000 (ntS I t w) (I w 0)).2.2 → (∀ a, a ≠ t + 1 → a ≠ t + 2 → a ≠ w → J a = I a) → Post (.inl (some (.int (i3 1)))) (wI B J)) (p0 : ∀ (J : IM) (p : Nat), (stM (cnI I c) wa (I c 0).toNat 1000 (ntS I t w) (I w 0)).1 = some p → p < (I c 0).toNat → J w 2 = I (c + 1) p → (∀ a, a ≠ t + 1 → a ≠ t + 2 → a ≠ w → J a = I a) → Post (.inl (some (.int (i3 0)))) (wI B J)) : Sp (d + 4) k_X5_makePassesToTheEnd [.ref w, .ref c, .ref t, .int (i3 (wa))] (wI B I) Post := by
  refine Sp_intro md_X5_makePassesToTheEnd rfl rfl (fun G hG => ?_)
  have lp : ∀ (m : Nat) (k : Nat) (J : IM) (v5 : Option Value), 1000 - k = m → k ≤ 1000 → (∀ a, a ≠ t + 1 → a ≠ t + 2 → a ≠ w → J a = I a) → okB (ntS J t w) → nrw (ntS I t w) (ntS J t w) → stM (cnI I c) wa (I c 0).toNat (1000 - k) (ntS J t w) (J w 0) = stM (cnI I c) wa (I c 0).toNat 1000 (ntS I t w) (I w 0) → (v5 = none ∨ ∃ z, v5 = some (.int z)) → G 3 [some (.ref w), some (.ref c), some (.ref t), some (.int (i3 wa)), some (.int (i3 (k : Int))), v5] [] (wI B J) := by
    intro m
    induction m using Nat.strongRecOn with
    | ind m ih =>
      intro k J v5 hme hk hr hok hnr hst h5
      have hcJ : ∀ a, c ≤ a → a ≤ c + 5 → J a = I a := fun a u v => hr a (by omega) (by omega) (by omega)
      have ecn : cnI J c = cnI I c := row_cn hcJ
      have ec0 : J c 0 = I c 0 := by rw [hcJ c (by omega) (by omega)]
      have w0 := okB_w hS
      have wJ := okB_w hok
      have n1 : I w 1 ≤ J w 1 := hnr.2.1
      have n2 : J w 1 + wsm (ntS J t w) ≤ I w 1 + wsm (ntS I t w) := hnr.2.2.1
      refine q_iload hG rfl rfl ?_
      refine q_sipush (v := 1000) hG rfl rfl ?_
      refine q_icmp_ge hG rfl ⟨by omega, by omega⟩ ⟨by omega, by omega⟩ (fun hc8 => ?_) (fun hc8 => ?_)
      · refine q_iconst (v := 1) hG rfl rfl ?_
        refine q_iret5 hG rfl rfl (by decide) ?_
        refine p1 J ?_ ?_ ?_ hr
        · rw [← hst, show 1000 - k = 0 by omega]; rfl
        · rw [← hst, show 1000 - k = 0 by omega]; rfl
        · rw [← hst, show 1000 - k = 0 by omega]; rfl
      · refine q_aload_n hG rfl rfl ?_
        refine q_getI0 hG rfl (by assumption) ?_
        refine q_istore hG rfl rfl ?_
        refine q_aload_n hG rfl rfl ?_
        refine q_aload_n hG rfl rfl ?_
        refine q_aload_n hG rfl rfl ?_
        refine q_iload_n hG rfl rfl ?_
        refine q_callV6 hG rfl rfl rfl (by assumption) (s_N_pass hb hc hw htw hct hcw (row_cWF hcJ hcf) hwa hok (fun J2 h1 h2 h3 h3b h4 => ?_) (fun J2 p h1 h2 h3 h4 => ?_))
        · rw [ecn, ec0] at h1 h2
          refine q_if_ne hG rfl ⟨by omega, by omega⟩ (fun _ => ?_) (fun q => absurd (by decide) q)
          have pk := paM_ok (wa := wa) (cWF_6 hcf) (I c 0).toNat 0 (ntS J t w) (by omega) hok
          have q1 := pk.1.2.1
          have q2 := pk.1.2.2.1
          have q3 := okB_w (pk.2.1 h1)
          have q4 : J2 w 1 = (paM (cnI I c) wa (I c 0).toNat 0 (ntS J t w)).1.2.2 := by rw [← h2]; rfl
          have q5 : (ntS J t w).2.2 = J w 1 := rfl
          refine q_aload_n hG rfl rfl ?_
          refine q_getI0 hG rfl (by assumption) ?_
          refine q_iload hG rfl rfl ?_
          refine q_icmp_ne hG rfl ⟨by omega, by omega⟩ ⟨by omega, by omega⟩ (fun hc35 => ?_) (fun hc35 => ?_)
          · refine q_iinc (c := 1) hG rfl rfl rfl rfl ?_
            refine q_goto hG rfl ?_
            refine ih _ (by omega) (k + 1) J2 _ rfl (by omega) (fun a p q r => (h4 a p q r).trans (hr a p q r)) ?_ ?_ ?_ (Or.inr ⟨_, rfl⟩)
            · rw [h2]
              exact pk.2.1 h1
            · rw [h2]
              exact hnr.trans pk.1
            · rw [← hst, show 1000 - k = (1000 - (k + 1)) + 1 by omega, stM, if_pos h1, if_neg (show ¬ (paM (cnI I c) wa (I c 0).toNat 0 (ntS J t w)).1.2.2 = (ntS J t w).2.2 by rw [← h2]; exact hc35), h3, h2]
          · refine q_iconst (v := 1) hG rfl rfl ?_
            refine q_iret5 hG rfl rfl (by decide) ?_
            have e1 : stM (cnI I c) wa (I c 0).toNat 1000 (ntS I t w) (I w 0) = (none, (paM (cnI I c) wa (I c 0).toNat 0 (ntS J t w)).1, J w 0 + 1) := by
              rw [← hst, show 1000 - k = (1000 - (k + 1)) + 1 by omega, stM, if_pos h1, if_pos (show (paM (cnI I c) wa (I c 0).toNat 0 (ntS J t w)).1.2.2 = (ntS J t w).2.2 by rw [← h2]; exact Classical.not_not.mp hc35)]
            refine p1 J2 (by rw [e1]) (by rw [e1]; exact h2) (by rw [e1]; exact h3) (fun a p q r => (h4 a p q r).trans (hr a p q r))
        · rw [ecn, ec0] at h1
          rw [ec0] at h2
          refine q_if_ne hG rfl ⟨by omega, by omega⟩ (fun q => absurd q (by decide)) (fun _ => ?_)
          refine q_iconst (v := 0) hG rfl rfl ?_
          refine q_iret5 hG rfl rfl (by decide) ?_
          have e1 : stM (cnI I c) wa (I c 0).toNat 1000 (ntS I t w) (I w 0) = (some p, (paM (cnI I c) wa (I c 0).toNat 0 (ntS J t w)).1, J w 0) := by
            rw [← hst, show 1000 - k = (1000 - (k + 1)) + 1 by omega, stM, if_neg (by rw [h1]; intro z; cases z), h1]
          refine p0 J2 p (by rw [e1]) h2 ?_ (fun a p q r => (h4 a p q r).trans (hr a p q r))
          rw [h3, hcJ (c + 1) (by omega) (by omega)]
  show G 0 [some (.ref w), some (.ref c), some (.ref t), some (.int (i3 (wa))), none, none] [] (wI B I)
  refine q_iconst (v := 0) hG rfl rfl ?_
  refine q_istore hG rfl rfl ?_
  exact lp _ 0 I _ rfl (by omega) (fun _ _ _ _ => rfl) hS (nrw.refl _) rfl (Or.inl rfl)
