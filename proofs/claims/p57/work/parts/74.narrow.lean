/-! narrowing -/
theorem loM_hi (s : PT) (x : Nat) (u v : Int) : (loM s x u v).2.1 = s.2.1 := by unfold loM; split <;> rfl
theorem ntS_1 {I J : IM} {t w : Nat} {s : PT} (h : ntS J t w = s) : J (t + 1) = s.1 := congrArg Prod.fst h
theorem ntS_2 {I J : IM} {t w : Nat} {s : PT} (h : ntS J t w = s) : J (t + 2) = s.2.1 := congrArg (fun z => z.2.1) h
theorem ntS_3 {I J : IM} {t w : Nat} {s : PT} (h : ntS J t w = s) : J w 1 = s.2.2 := congrArg (fun z => z.2.2) h

theorem s_N_keep {d : Nat} {B : HP} {I : IM} {Post : Out → HP → Prop} {t w : Nat} {f x g : Int} (hb : oB B t) (hw : hK B w = (15, 0)) (hf : 0 ≤ f ∧ f < 6) (hx : 0 ≤ x ∧ x < 6) (hg : 0 ≤ g ∧ g ≤ 20) (htw : w ≠ t + 1 ∧ w ≠ t + 2) (hS : bdB 300 (ntS I t w)) (hp : ∀ J : IM, ntS J t w = koM (ntS I t w) f.toNat x.toNat g → nfr I J t w → Post (.inl none) (wI B J)) : Sp (d + 1) k_X5_keepOff [.ref w, .ref t, .int (i3 (f)), .int (i3 (x)), .int (i3 (g))] (wI B I) Post := by
  refine Sp_intro md_X5_keepOff rfl rfl (fun G hG => ?_)
  obtain ⟨k1, k2, k3, k4, k5⟩ := hb
  have r1 : -300 ≤ I (t + 1) f.toNat ∧ I (t + 1) f.toNat ≤ 300 ∧ -300 ≤ I (t + 2) f.toNat ∧ I (t + 2) f.toNat ≤ 300 := hS f.toNat (by omega)
  have r2 : -300 ≤ I (t + 1) x.toNat ∧ I (t + 1) x.toNat ≤ 300 ∧ -300 ≤ I (t + 2) x.toNat ∧ I (t + 2) x.toNat ≤ 300 := hS x.toNat (by omega)
  have lj : ∀ (J1 : IM), I (t + 1) f.toNat = I (t + 2) f.toNat → ntS J1 t w = loM (ntS I t w) x.toNat (I (t + 1) f.toNat - g) (I (t + 1) f.toNat + g) → nfr I J1 t w → G 78 [some (.ref w), some (.ref t), some (.int (i3 f)), some (.int (i3 x)), some (.int (i3 g)), some (.int (i3 (I (t + 1) f.toNat - g))), some (.int (i3 (I (t + 1) f.toNat + g)))] [] (wI B J1) := by
    intro J1 he hj hfr
    have e2 : J1 (t + 2) = I (t + 2) := (ntS_2 (I := I) hj).trans (loM_hi _ _ _ _)
    refine q_aload_n hG rfl rfl ?_
    refine q_getR hG rfl (by assumption) (by assumption) ?_
    refine q_iload_n hG rfl rfl ?_
    refine q_ialdv (v := I (t + 2) x.toNat) hG rfl (by assumption) ⟨by omega, by omega, by omega⟩ (by rw [e2]) ?_
    refine q_iload hG rfl rfl ?_
    refine q_icmp_le hG rfl ⟨by omega, by omega⟩ ⟨by omega, by omega⟩ (fun hc86 => ?_) (fun hc86 => ?_)
    · refine q_vret hG rfl ?_
      refine hp _ ?_ hfr
      unfold koM
      rw [if_pos (show (ntS I t w).1 f.toNat = (ntS I t w).2.1 f.toNat from he)]
      show _ = hiM (loM (ntS I t w) x.toNat (I (t + 1) f.toNat - g) (I (t + 1) f.toNat + g)) x.toNat (I (t + 1) f.toNat - g) (I (t + 1) f.toNat + g)
      rw [← hj]
      unfold hiM
      rw [if_neg (show ¬ (I (t + 1) f.toNat - g < (ntS J1 t w).2.1 x.toNat ∧ (ntS J1 t w).2.1 x.toNat < I (t + 1) f.toNat + g) by show ¬ (I (t + 1) f.toNat - g < J1 (t + 2) x.toNat ∧ J1 (t + 2) x.toNat < I (t + 1) f.toNat + g); rw [e2]; omega)]
    · refine q_aload_n hG rfl rfl ?_
      refine q_getR hG rfl (by assumption) (by assumption) ?_
      refine q_iload_n hG rfl rfl ?_
      refine q_ialdv (v := I (t + 2) x.toNat) hG rfl (by assumption) ⟨by omega, by omega, by omega⟩ (by rw [e2]) ?_
      refine q_iload hG rfl rfl ?_
      refine q_icmp_ge hG rfl ⟨by omega, by omega⟩ ⟨by omega, by omega⟩ (fun hc97 => ?_) (fun hc97 => ?_)
      · refine q_vret hG rfl ?_
        refine hp _ ?_ hfr
        unfold koM
        rw [if_pos (show (ntS I t w).1 f.toNat = (ntS I t w).2.1 f.toNat from he)]
        show _ = hiM (loM (ntS I t w) x.toNat (I (t + 1) f.toNat - g) (I (t + 1) f.toNat + g)) x.toNat (I (t + 1) f.toNat - g) (I (t + 1) f.toNat + g)
        rw [← hj]
        unfold hiM
        rw [if_neg (show ¬ (I (t + 1) f.toNat - g < (ntS J1 t w).2.1 x.toNat ∧ (ntS J1 t w).2.1 x.toNat < I (t + 1) f.toNat + g) by show ¬ (I (t + 1) f.toNat - g < J1 (t + 2) x.toNat ∧ J1 (t + 2) x.toNat < I (t + 1) f.toNat + g); rw [e2]; omega)]
      · refine q_aload_n hG rfl rfl ?_
        refine q_getR hG rfl (by assumption) (by assumption) ?_
        refine q_iload_n hG rfl rfl ?_
        refine q_iload hG rfl rfl ?_
        refine q_iast hG rfl (by assumption) ⟨by omega, by omega, by omega⟩ ?_
        refine q_aload_n hG rfl rfl ?_
        refine q_dup hG rfl rfl ?_
        refine q_getI0v (v := J1 w 1) hG rfl (by assumption) (by rw [st_row _ _ htw.2]) ?_
        refine q_iconst (v := 1) hG rfl rfl ?_
        refine q_iadd hG rfl ?_
        refine q_putI0 hG rfl (by assumption) ?_
        refine q_vret hG rfl ?_
        refine hp _ ?_ (hfr.trans ⟨fun a p q r => ?_, ?_, ?_⟩)
        · unfold koM
          rw [if_pos (show (ntS I t w).1 f.toNat = (ntS I t w).2.1 f.toNat from he)]
          show _ = hiM (loM (ntS I t w) x.toNat (I (t + 1) f.toNat - g) (I (t + 1) f.toNat + g)) x.toNat (I (t + 1) f.toNat - g) (I (t + 1) f.toNat + g)
          rw [← hj]
          unfold hiM
          rw [if_pos (show I (t + 1) f.toNat - g < (ntS J1 t w).2.1 x.toNat ∧ (ntS J1 t w).2.1 x.toNat < I (t + 1) f.toNat + g by show I (t + 1) f.toNat - g < J1 (t + 2) x.toNat ∧ J1 (t + 2) x.toNat < I (t + 1) f.toNat + g; rw [e2]; omega)]
          unfold ntS
          simp only [st_fn, st_row _ _ htw.1.symm, st_row _ _ htw.2.symm, st_row _ _ (show t + 1 ≠ t + 2 by omega), st_row _ _ (show t + 2 ≠ t + 1 by omega), st_row _ _ htw.1, st_row _ _ htw.2, upf_same]
        · rw [st_row _ _ r, st_row _ _ (by omega)]
        · rw [st_ne _ _ (by omega), st_row _ _ (by omega)]
        · rw [st_ne _ _ (by omega), st_row _ _ (by omega)]
  show G 0 [some (.ref w), some (.ref t), some (.int (i3 (f))), some (.int (i3 (x))), some (.int (i3 (g))), none, none] [] (wI B I)
  refine q_aload_n hG rfl rfl ?_
  refine q_getR hG rfl (by assumption) (by assumption) ?_
  refine q_iload_n hG rfl rfl ?_
  refine q_iald hG rfl (by assumption) ⟨by omega, by omega, by omega⟩ ?_
  refine q_aload_n hG rfl rfl ?_
  refine q_getR hG rfl (by assumption) (by assumption) ?_
  refine q_iload_n hG rfl rfl ?_
  refine q_ialdv (v := I (t + 2) f.toNat) hG rfl (by assumption) ⟨by omega, by omega, by omega⟩ rfl ?_
  refine q_icmp_eq hG rfl ⟨by omega, by omega⟩ ⟨by omega, by omega⟩ (fun hc12 => ?_) (fun hc12 => ?_)
  · refine q_aload_n hG rfl rfl ?_
    refine q_getR hG rfl (by assumption) (by assumption) ?_
    refine q_iload_n hG rfl rfl ?_
    refine q_ialdv (v := I (t + 1) f.toNat) hG rfl (by assumption) ⟨by omega, by omega, by omega⟩ rfl ?_
    refine q_iload hG rfl rfl ?_
    refine q_isub hG rfl ?_
    refine q_istore hG rfl rfl ?_
    refine q_aload_n hG rfl rfl ?_
    refine q_getR hG rfl (by assumption) (by assumption) ?_
    refine q_iload_n hG rfl rfl ?_
    refine q_ialdv (v := I (t + 1) f.toNat) hG rfl (by assumption) ⟨by omega, by omega, by omega⟩ rfl ?_
    refine q_iload hG rfl rfl ?_
    refine q_iadd hG rfl ?_
    refine q_istore hG rfl rfl ?_
    refine q_aload_n hG rfl rfl ?_
    refine q_getR hG rfl (by assumption) (by assumption) ?_
    refine q_iload_n hG rfl rfl ?_
    refine q_ialdv (v := I (t + 1) x.toNat) hG rfl (by assumption) ⟨by omega, by omega, by omega⟩ rfl ?_
    refine q_iload hG rfl rfl ?_
    refine q_icmp_le hG rfl ⟨by omega, by omega⟩ ⟨by omega, by omega⟩ (fun hc46 => ?_) (fun hc46 => ?_)
    · refine lj _ (by omega) ?_ (nfr.refl I t w)
      unfold loM
      rw [if_neg (show ¬ (I (t + 1) f.toNat - g < (ntS I t w).1 x.toNat ∧ (ntS I t w).1 x.toNat < I (t + 1) f.toNat + g) by show ¬ (I (t + 1) f.toNat - g < I (t + 1) x.toNat ∧ I (t + 1) x.toNat < I (t + 1) f.toNat + g); omega)]
    · refine q_aload_n hG rfl rfl ?_
      refine q_getR hG rfl (by assumption) (by assumption) ?_
      refine q_iload_n hG rfl rfl ?_
      refine q_ialdv (v := I (t + 1) x.toNat) hG rfl (by assumption) ⟨by omega, by omega, by omega⟩ rfl ?_
      refine q_iload hG rfl rfl ?_
      refine q_icmp_ge hG rfl ⟨by omega, by omega⟩ ⟨by omega, by omega⟩ (fun hc57 => ?_) (fun hc57 => ?_)
      · refine lj _ (by omega) ?_ (nfr.refl I t w)
        unfold loM
        rw [if_neg (show ¬ (I (t + 1) f.toNat - g < (ntS I t w).1 x.toNat ∧ (ntS I t w).1 x.toNat < I (t + 1) f.toNat + g) by show ¬ (I (t + 1) f.toNat - g < I (t + 1) x.toNat ∧ I (t + 1) x.toNat < I (t + 1) f.toNat + g); omega)]
      · refine q_aload_n hG rfl rfl ?_
        refine q_getR hG rfl (by assumption) (by assumption) ?_
        refine q_iload_n hG rfl rfl ?_
        refine q_iload hG rfl rfl ?_
        refine q_iast hG rfl (by assumption) ⟨by omega, by omega, by omega⟩ ?_
        refine q_aload_n hG rfl rfl ?_
        refine q_dup hG rfl rfl ?_
        refine q_getI0v (v := I w 1) hG rfl (by assumption) (by rw [st_row _ _ htw.1]) ?_
        refine q_iconst (v := 1) hG rfl rfl ?_
        refine q_iadd hG rfl ?_
        refine q_putI0 hG rfl (by assumption) ?_
        refine lj _ (by omega) ?_ ⟨fun a p q r => ?_, ?_, ?_⟩
        · unfold loM
          rw [if_pos (show I (t + 1) f.toNat - g < (ntS I t w).1 x.toNat ∧ (ntS I t w).1 x.toNat < I (t + 1) f.toNat + g by show I (t + 1) f.toNat - g < I (t + 1) x.toNat ∧ I (t + 1) x.toNat < I (t + 1) f.toNat + g; omega)]
          unfold ntS
          simp only [st_fn, st_row _ _ htw.1.symm, st_row _ _ htw.2.symm, st_row _ _ (show t + 1 ≠ t + 2 by omega), st_row _ _ (show t + 2 ≠ t + 1 by omega), st_row _ _ htw.1, st_row _ _ htw.2, upf_same]
        · rw [st_row _ _ r, st_row _ _ (by omega)]
        · rw [st_ne _ _ (by omega), st_row _ _ (by omega)]
        · rw [st_ne _ _ (by omega), st_row _ _ (by omega)]
  · refine q_vret hG rfl ?_
    refine hp _ ?_ (nfr.refl I t w)
    unfold koM
    rw [if_neg (show ¬ (ntS I t w).1 f.toNat = (ntS I t w).2.1 f.toNat from fun z => by have z : I (t + 1) f.toNat = I (t + 2) f.toNat := z; omega)]
theorem s_N_step {d : Nat} {B : HP} {I : IM} {Post : Out → HP → Prop} {t w c p : Nat} (hb : oB B t) (hc : oC B c) (hw : hK B w = (15, 0)) (htw : w ≠ t + 1 ∧ w ≠ t + 2) (hct : c + 5 < t + 1 ∨ t + 2 < c) (hcw : c + 5 < w ∨ w < c) (hp10 : p < 10) (hF : 0 ≤ I (c + 3) p ∧ I (c + 3) p < 6) (hS2 : 0 ≤ I (c + 4) p ∧ I (c + 4) p < 6) (hg : 0 ≤ I (c + 5) p ∧ I (c + 5) p ≤ 20) (hK2 : 0 ≤ I (c + 2) p ∧ I (c + 2) p < 65536) (hS : okB (ntS I t w)) (hp : ∀ J : IM, ntS J t w = sp1 (I (c + 2) p) (I (c + 3) p).toNat (I (c + 4) p).toNat (I (c + 5) p) (ntS I t w) → nfr I J t w → Post (.inl none) (wI B J)) : Sp (d + 2) k_X5_takeSteps [.ref w, .ref c, .int (i3 ((p : Int))), .ref t] (wI B I) Post := by
  refine Sp_intro md_X5_takeSteps rfl rfl (fun G hG => ?_)
  have hb0 := hb
  obtain ⟨k1, k2, k3, k4, k5⟩ := hb
  obtain ⟨m1, m2, m3, m4, m5, m6, m7, m8, m9, m10, m11⟩ := hc
  have b0 := okB_bd hS
  have q0a : -40 ≤ I (t + 1) (I (c + 3) p).toNat ∧ I (t + 1) (I (c + 3) p).toNat ≤ 40 ∧ -40 ≤ I (t + 2) (I (c + 3) p).toNat ∧ I (t + 2) (I (c + 3) p).toNat ≤ 40 := b0 (I (c + 3) p).toNat (by omega)
  have q0b : -40 ≤ I (t + 1) (I (c + 4) p).toNat ∧ I (t + 1) (I (c + 4) p).toNat ≤ 40 ∧ -40 ≤ I (t + 2) (I (c + 4) p).toNat ∧ I (t + 2) (I (c + 4) p).toNat ≤ 40 := b0 (I (c + 4) p).toNat (by omega)
  show G 0 [some (.ref w), some (.ref c), some (.int (i3 ((p : Int)))), some (.ref t), none, none, none] [] (wI B I)
  refine q_aload_n hG rfl rfl ?_
  refine q_getR hG rfl (by assumption) (by assumption) ?_
  refine q_iload_n hG rfl rfl ?_
  refine q_ialdv (v := (I (c + 3) p)) hG rfl (by assumption) ⟨by omega, by omega, by omega⟩ rfl ?_
  refine q_istore hG rfl rfl ?_
  refine q_aload_n hG rfl rfl ?_
  refine q_getR hG rfl (by assumption) (by assumption) ?_
  refine q_iload_n hG rfl rfl ?_
  refine q_ialdv (v := (I (c + 4) p)) hG rfl (by assumption) ⟨by omega, by omega, by omega⟩ rfl ?_
  refine q_istore hG rfl rfl ?_
  refine q_aload_n hG rfl rfl ?_
  refine q_getR hG rfl (by assumption) (by assumption) ?_
  refine q_iload_n hG rfl rfl ?_
  refine q_ialdv (v := (I (c + 5) p)) hG rfl (by assumption) ⟨by omega, by omega, by omega⟩ rfl ?_
  refine q_istore hG rfl rfl ?_
  refine q_aload_n hG rfl rfl ?_
  refine q_getR hG rfl (by assumption) (by assumption) ?_
  refine q_iload_n hG rfl rfl ?_
  refine q_caldv (v := (I (c + 2) p)) hG rfl (by assumption) ⟨by omega, by omega, by omega⟩ rfl ?_
  refine q_bipush (v := 35) hG rfl rfl ?_
  refine q_icmp_ne hG rfl ⟨by omega, by omega⟩ ⟨by omega, by omega⟩ (fun hc32 => ?_) (fun hc32 => ?_)
  · refine q_aload_n hG rfl rfl ?_
    refine q_aload_n hG rfl rfl ?_
    refine q_iload hG rfl rfl ?_
    refine q_aload_n hG rfl rfl ?_
    refine q_getR hG rfl (by assumption) (by assumption) ?_
    refine q_iload hG rfl rfl ?_
    refine q_ialdv (v := I (t + 1) (I (c + 3) p).toNat) hG rfl (by assumption) ⟨by omega, by omega, by omega⟩ rfl ?_
    refine q_iload hG rfl rfl ?_
    refine q_iadd hG rfl ?_
    refine q_callV6 hG rfl rfl rfl (by assumption) (s_N_raise hb0 hw hS2 htw ⟨by omega, by omega⟩ ⟨by omega, by omega⟩ (fun J1 e1 h1 => ?_))
    have b1 := bdB_rs (x := (I (c + 4) p).toNat) (v := I (t + 1) (I (c + 3) p).toNat + (I (c + 5) p)) (bdB_up b0 (show (40 : Int) ≤ 60 by omega)) (by omega)
    rw [← e1] at b1
    have q1a : -60 ≤ J1 (t + 1) (I (c + 3) p).toNat ∧ J1 (t + 1) (I (c + 3) p).toNat ≤ 60 ∧ -60 ≤ J1 (t + 2) (I (c + 3) p).toNat ∧ J1 (t + 2) (I (c + 3) p).toNat ≤ 60 := b1 (I (c + 3) p).toNat (by omega)
    have q1b : -60 ≤ J1 (t + 1) (I (c + 4) p).toNat ∧ J1 (t + 1) (I (c + 4) p).toNat ≤ 60 ∧ -60 ≤ J1 (t + 2) (I (c + 4) p).toNat ∧ J1 (t + 2) (I (c + 4) p).toNat ≤ 60 := b1 (I (c + 4) p).toNat (by omega)
    refine q_aload_n hG rfl rfl ?_
    refine q_aload_n hG rfl rfl ?_
    refine q_iload hG rfl rfl ?_
    refine q_aload_n hG rfl rfl ?_
    refine q_getR hG rfl (by assumption) (by assumption) ?_
    refine q_iload hG rfl rfl ?_
    refine q_ialdv (v := J1 (t + 2) (I (c + 4) p).toNat) hG rfl (by assumption) ⟨by omega, by omega, by omega⟩ rfl ?_
    refine q_iload hG rfl rfl ?_
    refine q_isub hG rfl ?_
    refine q_callV6 hG rfl rfl rfl (by assumption) (s_N_sink hb0 hw hF htw ⟨by omega, by omega⟩ ⟨by omega, by omega⟩ (fun J2 e2 h2 => ?_))
    have b2 := bdB_sk (x := (I (c + 3) p).toNat) (v := J1 (t + 2) (I (c + 4) p).toNat - (I (c + 5) p)) (bdB_up b1 (show (60 : Int) ≤ 80 by omega)) (by omega)
    rw [← e2] at b2
    have q2a : -80 ≤ J2 (t + 1) (I (c + 3) p).toNat ∧ J2 (t + 1) (I (c + 3) p).toNat ≤ 80 ∧ -80 ≤ J2 (t + 2) (I (c + 3) p).toNat ∧ J2 (t + 2) (I (c + 3) p).toNat ≤ 80 := b2 (I (c + 3) p).toNat (by omega)
    have q2b : -80 ≤ J2 (t + 1) (I (c + 4) p).toNat ∧ J2 (t + 1) (I (c + 4) p).toNat ≤ 80 ∧ -80 ≤ J2 (t + 2) (I (c + 4) p).toNat ∧ J2 (t + 2) (I (c + 4) p).toNat ≤ 80 := b2 (I (c + 4) p).toNat (by omega)
    refine q_aload_n hG rfl rfl ?_
    refine q_getR hG rfl (by assumption) (by assumption) ?_
    refine q_iload_n hG rfl rfl ?_
    refine q_caldv (v := (I (c + 2) p)) hG rfl (by assumption) ⟨by omega, by omega, by omega⟩ (by have e := h2.1 (c + 2) (by omega) (by omega) (by omega); have e0 := h1.1 (c + 2) (by omega) (by omega) (by omega); show J2 (c + 2) p = _; rw [e, e0]) ?_
    refine q_bipush (v := 61) hG rfl rfl ?_
    refine q_icmp_ne hG rfl ⟨by omega, by omega⟩ ⟨by omega, by omega⟩ (fun hc100 => ?_) (fun hc100 => ?_)
    · refine q_vret hG rfl ?_
      refine hp _ ?_ (h1.trans h2)
      have e2 : ntS J2 t w = skM (ntS J1 t w) (I (c + 3) p).toNat ((ntS J1 t w).2.1 (I (c + 4) p).toNat - (I (c + 5) p)) := e2
      have e1 : ntS J1 t w = rsM (ntS I t w) (I (c + 4) p).toNat ((ntS I t w).1 (I (c + 3) p).toNat + (I (c + 5) p)) := e1
      rw [e2, e1]
      unfold sp1
      rw [if_neg (show ¬ (I (c + 2) p) = 35 by omega), if_neg (show ¬ (I (c + 2) p) = 61 by omega)]
      rfl
    · refine q_aload_n hG rfl rfl ?_
      refine q_aload_n hG rfl rfl ?_
      refine q_iload hG rfl rfl ?_
      refine q_aload_n hG rfl rfl ?_
      refine q_getR hG rfl (by assumption) (by assumption) ?_
      refine q_iload hG rfl rfl ?_
      refine q_ialdv (v := J2 (t + 1) (I (c + 4) p).toNat) hG rfl (by assumption) ⟨by omega, by omega, by omega⟩ rfl ?_
      refine q_iload hG rfl rfl ?_
      refine q_isub hG rfl ?_
      refine q_callV6 hG rfl rfl rfl (by assumption) (s_N_raise hb0 hw hF htw ⟨by omega, by omega⟩ ⟨by omega, by omega⟩ (fun J3 e3 h3 => ?_))
      have b3 := bdB_rs (x := (I (c + 3) p).toNat) (v := J2 (t + 1) (I (c + 4) p).toNat - (I (c + 5) p)) (bdB_up b2 (show (80 : Int) ≤ 100 by omega)) (by omega)
      rw [← e3] at b3
      have q3a : -100 ≤ J3 (t + 1) (I (c + 3) p).toNat ∧ J3 (t + 1) (I (c + 3) p).toNat ≤ 100 ∧ -100 ≤ J3 (t + 2) (I (c + 3) p).toNat ∧ J3 (t + 2) (I (c + 3) p).toNat ≤ 100 := b3 (I (c + 3) p).toNat (by omega)
      have q3b : -100 ≤ J3 (t + 1) (I (c + 4) p).toNat ∧ J3 (t + 1) (I (c + 4) p).toNat ≤ 100 ∧ -100 ≤ J3 (t + 2) (I (c + 4) p).toNat ∧ J3 (t + 2) (I (c + 4) p).toNat ≤ 100 := b3 (I (c + 4) p).toNat (by omega)
      refine q_aload_n hG rfl rfl ?_
      refine q_aload_n hG rfl rfl ?_
      refine q_iload hG rfl rfl ?_
      refine q_aload_n hG rfl rfl ?_
      refine q_getR hG rfl (by assumption) (by assumption) ?_
      refine q_iload hG rfl rfl ?_
      refine q_ialdv (v := J3 (t + 2) (I (c + 3) p).toNat) hG rfl (by assumption) ⟨by omega, by omega, by omega⟩ rfl ?_
      refine q_iload hG rfl rfl ?_
      refine q_iadd hG rfl ?_
      refine q_callV6 hG rfl rfl rfl (by assumption) (s_N_sink hb0 hw hS2 htw ⟨by omega, by omega⟩ ⟨by omega, by omega⟩ (fun J4 e4 h4 => ?_))
      refine q_vret hG rfl ?_
      refine hp _ ?_ (((h1.trans h2).trans h3).trans h4)
      have e4 : ntS J4 t w = skM (ntS J3 t w) (I (c + 4) p).toNat ((ntS J3 t w).2.1 (I (c + 3) p).toNat + (I (c + 5) p)) := e4
      have e3 : ntS J3 t w = rsM (ntS J2 t w) (I (c + 3) p).toNat ((ntS J2 t w).1 (I (c + 4) p).toNat - (I (c + 5) p)) := e3
      have e2 : ntS J2 t w = skM (ntS J1 t w) (I (c + 3) p).toNat ((ntS J1 t w).2.1 (I (c + 4) p).toNat - (I (c + 5) p)) := e2
      have e1 : ntS J1 t w = rsM (ntS I t w) (I (c + 4) p).toNat ((ntS I t w).1 (I (c + 3) p).toNat + (I (c + 5) p)) := e1
      have e5 : ntS J2 t w = lwM (I (c + 3) p).toNat (I (c + 4) p).toNat (I (c + 5) p) (ntS I t w) := by rw [e2, e1]; rfl
      rw [e4, e3, e5]
      unfold sp1
      rw [if_neg (show ¬ (I (c + 2) p) = 35 by omega), if_pos (show (I (c + 2) p) = 61 by omega)]
      rfl
  · refine q_aload_n hG rfl rfl ?_
    refine q_aload_n hG rfl rfl ?_
    refine q_iload hG rfl rfl ?_
    refine q_iload hG rfl rfl ?_
    refine q_iload hG rfl rfl ?_
    refine q_callV6 hG rfl rfl rfl (by assumption) (s_N_keep hb0 hw hF hS2 hg htw (bdB_up b0 (by omega)) (fun J1 e1 h1 => ?_))
    have b1 := bdB_ko (x := (I (c + 4) p).toNat) b0 (show (I (c + 3) p).toNat < 6 by omega) hg
    rw [← e1] at b1
    refine q_aload_n hG rfl rfl ?_
    refine q_aload_n hG rfl rfl ?_
    refine q_iload hG rfl rfl ?_
    refine q_iload hG rfl rfl ?_
    refine q_iload hG rfl rfl ?_
    refine q_callV6 hG rfl rfl rfl (by assumption) (s_N_keep hb0 hw hS2 hF hg htw (bdB_up b1 (by omega)) (fun J2 e2 h2 => ?_))
    refine q_vret hG rfl ?_
    refine hp _ ?_ (h1.trans h2)
    rw [e2, e1]
    unfold sp1
    rw [if_pos (show (I (c + 2) p) = 35 by omega)]
