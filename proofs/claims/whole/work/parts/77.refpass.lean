/-! the reference's passes -/
theorem koM_eq (s : PT) (f x : Nat) (g : Int) : koM s f x g = (if s.1 f = s.2.1 f then hiM (if s.1 f = s.2.1 f then loM s x (s.1 f - g) (s.1 f + g) else s) x (s.1 f - g) (s.1 f + g) else (if s.1 f = s.2.1 f then loM s x (s.1 f - g) (s.1 f + g) else s)) := by
  unfold koM
  by_cases h : s.1 f = s.2.1 f
  · rw [if_pos h, if_pos h, if_pos h]
  · rw [if_neg h, if_neg h, if_neg h]
theorem rfS_1 {J : IM} {m : Nat} {s : PT} (h : rfS J m = s) (k : Nat) : dR J m k 2 = s.1 k := congrArg (fun z => z.1 k) h
theorem rfS_2 {J : IM} {m : Nat} {s : PT} (h : rfS J m = s) (k : Nat) : dR J m k 3 = s.2.1 k := congrArg (fun z => z.2.1 k) h
theorem loM_at (s : PT) (x f : Nat) (u v : Int) (h : f ≠ x) : (loM s x u v).1 f = s.1 f := by
  unfold loM
  split
  · exact upf_ne _ _ h
  · rfl

theorem s_R_parts {d : Nat} {B : HP} {I : IM} {Post : Out → HP → Prop} {m : Nat} {f x g : Int} (hm : oM B m) (hf : 0 ≤ f ∧ f < 6) (hx : 0 ≤ x ∧ x < 6) (hfx0 : f ≠ x) (hg : 0 ≤ g ∧ g ≤ 20) (hS : bdB 300 (rfS I m)) (hp : ∀ J : IM, rfS J m = koM (rfS I m) f.toNat x.toNat g → rfr I J m → Post (.inl none) (wI B J)) : Sp (d + 4) k_X9_parts [.ref m, .int (i3 (f)), .int (i3 (x)), .int (i3 (g))] (wI B I) Post := by
  refine Sp_intro md_X9_parts rfl rfl (fun G hG => ?_)
  have hm0 := hm
  obtain ⟨n1, n2, n3, n4, n5, n6, n7, n8, n9, n10, n11⟩ := hm
  have r1 : -300 ≤ dR I m f.toNat 2 ∧ dR I m f.toNat 2 ≤ 300 ∧ -300 ≤ dR I m f.toNat 3 ∧ dR I m f.toNat 3 ≤ 300 := hS f.toNat (by omega)
  have r2 : -300 ≤ dR I m x.toNat 2 ∧ dR I m x.toNat 2 ≤ 300 ∧ -300 ≤ dR I m x.toNat 3 ∧ dR I m x.toNat 3 ≤ 300 := hS x.toNat (by omega)
  have lj : ∀ (J1 : IM), rfS J1 m = (if (rfS I m).1 f.toNat = (rfS I m).2.1 f.toNat then loM (rfS I m) x.toNat (dR I m f.toNat 2 - g) (dR I m f.toNat 2 + g) else rfS I m) → rfr I J1 m → G 57 [some (.ref m), some (.int (i3 f)), some (.int (i3 x)), some (.int (i3 g)), some (.int (i3 (dR I m f.toNat 2))), some (.int (i3 (dR I m x.toNat 2))), none] [] (wI B J1) := by
    intro J1 hj hfr
    have e2 : dR J1 m f.toNat 2 = dR I m f.toNat 2 := by
      rw [rfS_1 hj]
      split
      · exact loM_at _ _ _ _ _ (by omega)
      · rfl
    have e3 : ∀ k, dR J1 m k 3 = dR I m k 3 := fun k => by
      rw [rfS_2 hj]
      split
      · rw [loM_hi]; rfl
      · rfl
    have e4 := e3 x.toNat
    have e3 := e3 f.toNat
    refine q_aload_n hG rfl rfl ?_
    refine q_iload_n hG rfl rfl ?_
    refine q_iconst (v := 3) hG rfl rfl ?_
    refine q_callV6 hG rfl rfl rfl (by assumption) (s_R_d (w := 3) hm0 ⟨by omega, by omega⟩ (by decide) ?_)
    refine q_istore hG rfl rfl ?_
    refine q_aload_n hG rfl rfl ?_
    refine q_iload_n hG rfl rfl ?_
    refine q_iconst (v := 3) hG rfl rfl ?_
    refine q_aload_n hG rfl rfl ?_
    refine q_iload_n hG rfl rfl ?_
    refine q_callV6 hG rfl rfl rfl (by assumption) (s_R_fixed hm0 hf (by rw [e2]; exact ⟨by omega, by omega⟩) (by rw [e3]; exact ⟨by omega, by omega⟩) (fun hfx => ?_) (fun hfx => ?_))
    · refine q_if_eq hG rfl ⟨by omega, by omega⟩ (fun q => absurd q (by decide)) (fun _ => ?_)
      refine q_iload hG rfl rfl ?_
      refine q_iload hG rfl rfl ?_
      refine q_iload_n hG rfl rfl ?_
      refine q_isub hG rfl ?_
      refine q_icmp_le hG rfl ⟨by omega, by omega⟩ ⟨by omega, by omega⟩ (fun hc82 => ?_) (fun hc82 => ?_)
      · refine q_iconst (v := 0) hG rfl rfl ?_
        refine q_iload hG rfl rfl ?_
        refine q_iload_n hG rfl rfl ?_
        refine q_isub hG rfl ?_
        refine q_callV6 hG rfl rfl rfl (by assumption) (s_R_bec0 (w := 3) hm0 ?_)
        refine q_vret hG rfl ?_
        have eq : koM (rfS I m) f.toNat x.toNat g = (if (rfS I m).1 f.toNat = (rfS I m).2.1 f.toNat then hiM (rfS J1 m) x.toNat (dR I m f.toNat 2 - g) (dR I m f.toNat 2 + g) else rfS J1 m) := by
          rw [koM_eq, hj]
          rfl
        refine hp _ ?_ hfr
        rw [eq, if_pos (show (rfS I m).1 f.toNat = (rfS I m).2.1 f.toNat by have z := hfx; rw [e2, e3] at z; exact z)]
        unfold hiM
        rw [if_neg (show ¬ (dR I m f.toNat 2 - g < (rfS J1 m).2.1 x.toNat ∧ (rfS J1 m).2.1 x.toNat < dR I m f.toNat 2 + g) by show ¬ (dR I m f.toNat 2 - g < dR J1 m x.toNat 3 ∧ dR J1 m x.toNat 3 < dR I m f.toNat 2 + g); omega)]
      · refine q_iload hG rfl rfl ?_
        refine q_iload hG rfl rfl ?_
        refine q_iload_n hG rfl rfl ?_
        refine q_iadd hG rfl ?_
        refine q_icmp_ge hG rfl ⟨by omega, by omega⟩ ⟨by omega, by omega⟩ (fun hc91 => ?_) (fun hc91 => ?_)
        · refine q_iconst (v := 0) hG rfl rfl ?_
          refine q_iload hG rfl rfl ?_
          refine q_iload_n hG rfl rfl ?_
          refine q_isub hG rfl ?_
          refine q_callV6 hG rfl rfl rfl (by assumption) (s_R_bec0 (w := 3) hm0 ?_)
          refine q_vret hG rfl ?_
          have eq : koM (rfS I m) f.toNat x.toNat g = (if (rfS I m).1 f.toNat = (rfS I m).2.1 f.toNat then hiM (rfS J1 m) x.toNat (dR I m f.toNat 2 - g) (dR I m f.toNat 2 + g) else rfS J1 m) := by
            rw [koM_eq, hj]
            rfl
          refine hp _ ?_ hfr
          rw [eq, if_pos (show (rfS I m).1 f.toNat = (rfS I m).2.1 f.toNat by have z := hfx; rw [e2, e3] at z; exact z)]
          unfold hiM
          rw [if_neg (show ¬ (dR I m f.toNat 2 - g < (rfS J1 m).2.1 x.toNat ∧ (rfS J1 m).2.1 x.toNat < dR I m f.toNat 2 + g) by show ¬ (dR I m f.toNat 2 - g < dR J1 m x.toNat 3 ∧ dR J1 m x.toNat 3 < dR I m f.toNat 2 + g); omega)]
        · refine q_iconst (v := 1) hG rfl rfl ?_
          refine q_goto hG rfl ?_
          refine q_iload hG rfl rfl ?_
          refine q_iload_n hG rfl rfl ?_
          refine q_isub hG rfl ?_
          refine q_callV6 hG rfl rfl rfl (by assumption) (s_R_bec1 (w := 3) hm0 ⟨by omega, by omega⟩ (by decide) ?_)
          refine q_vret hG rfl ?_
          have eq : koM (rfS I m) f.toNat x.toNat g = (if (rfS I m).1 f.toNat = (rfS I m).2.1 f.toNat then hiM (rfS J1 m) x.toNat (dR I m f.toNat 2 - g) (dR I m f.toNat 2 + g) else rfS J1 m) := by
            rw [koM_eq, hj]
            rfl
          obtain ⟨a1, a2⟩ := rfr_hi (I := J1) (m := m) (x := x.toNat) (v := dR I m f.toNat 2 - g) (by omega)
          refine hp _ ?_ (hfr.trans a2)
          rw [a1, eq, if_pos (show (rfS I m).1 f.toNat = (rfS I m).2.1 f.toNat by have z := hfx; rw [e2, e3] at z; exact z)]
          unfold hiM
          rw [if_pos (show dR I m f.toNat 2 - g < (rfS J1 m).2.1 x.toNat ∧ (rfS J1 m).2.1 x.toNat < dR I m f.toNat 2 + g by show dR I m f.toNat 2 - g < dR J1 m x.toNat 3 ∧ dR J1 m x.toNat 3 < dR I m f.toNat 2 + g; omega)]
    · refine q_if_eq hG rfl ⟨by omega, by omega⟩ (fun _ => ?_) (fun q => absurd (by decide) q)
      refine q_iconst (v := 0) hG rfl rfl ?_
      refine q_iload hG rfl rfl ?_
      refine q_iload_n hG rfl rfl ?_
      refine q_isub hG rfl ?_
      refine q_callV6 hG rfl rfl rfl (by assumption) (s_R_bec0 (w := 3) hm0 ?_)
      refine q_vret hG rfl ?_
      have eq : koM (rfS I m) f.toNat x.toNat g = (if (rfS I m).1 f.toNat = (rfS I m).2.1 f.toNat then hiM (rfS J1 m) x.toNat (dR I m f.toNat 2 - g) (dR I m f.toNat 2 + g) else rfS J1 m) := by
        rw [koM_eq, hj]
        rfl
      refine hp _ ?_ hfr
      rw [eq, if_neg (show ¬ (rfS I m).1 f.toNat = (rfS I m).2.1 f.toNat from fun z => hfx (by rw [e2, e3]; exact z))]
  show G 0 [some (.ref m), some (.int (i3 (f))), some (.int (i3 (x))), some (.int (i3 (g))), none, none, none] [] (wI B I)
  refine q_aload_n hG rfl rfl ?_
  refine q_iload_n hG rfl rfl ?_
  refine q_iconst (v := 2) hG rfl rfl ?_
  refine q_callV6 hG rfl rfl rfl (by assumption) (s_R_d (w := 2) hm0 ⟨by omega, by omega⟩ (by decide) ?_)
  refine q_istore hG rfl rfl ?_
  refine q_aload_n hG rfl rfl ?_
  refine q_iload_n hG rfl rfl ?_
  refine q_iconst (v := 2) hG rfl rfl ?_
  refine q_callV6 hG rfl rfl rfl (by assumption) (s_R_d (w := 2) hm0 ⟨by omega, by omega⟩ (by decide) ?_)
  refine q_istore hG rfl rfl ?_
  refine q_aload_n hG rfl rfl ?_
  refine q_iload_n hG rfl rfl ?_
  refine q_iconst (v := 2) hG rfl rfl ?_
  refine q_aload_n hG rfl rfl ?_
  refine q_iload_n hG rfl rfl ?_
  refine q_callV6 hG rfl rfl rfl (by assumption) (s_R_fixed hm0 hf ⟨by omega, by omega⟩ ⟨by omega, by omega⟩ (fun hfx => ?_) (fun hfx => ?_))
  · refine q_if_eq hG rfl ⟨by omega, by omega⟩ (fun q => absurd q (by decide)) (fun _ => ?_)
    refine q_iload hG rfl rfl ?_
    refine q_iload hG rfl rfl ?_
    refine q_iload_n hG rfl rfl ?_
    refine q_isub hG rfl ?_
    refine q_icmp_le hG rfl ⟨by omega, by omega⟩ ⟨by omega, by omega⟩ (fun hc33 => ?_) (fun hc33 => ?_)
    · refine q_iconst (v := 0) hG rfl rfl ?_
      refine q_iload hG rfl rfl ?_
      refine q_iload_n hG rfl rfl ?_
      refine q_iadd hG rfl ?_
      refine q_callV6 hG rfl rfl rfl (by assumption) (s_R_bec0 (w := 2) hm0 ?_)
      refine lj I ?_ (rfr.refl I m)
      unfold loM
      first
      | rw [if_pos (show (rfS I m).1 f.toNat = (rfS I m).2.1 f.toNat from hfx), if_neg (show ¬ (dR I m f.toNat 2 - g < (rfS I m).1 x.toNat ∧ (rfS I m).1 x.toNat < dR I m f.toNat 2 + g) by show ¬ (dR I m f.toNat 2 - g < dR I m x.toNat 2 ∧ dR I m x.toNat 2 < dR I m f.toNat 2 + g); omega)]
      | rw [if_neg (show ¬ (rfS I m).1 f.toNat = (rfS I m).2.1 f.toNat from hfx)]
    · refine q_iload hG rfl rfl ?_
      refine q_iload hG rfl rfl ?_
      refine q_iload_n hG rfl rfl ?_
      refine q_iadd hG rfl ?_
      refine q_icmp_ge hG rfl ⟨by omega, by omega⟩ ⟨by omega, by omega⟩ (fun hc42 => ?_) (fun hc42 => ?_)
      · refine q_iconst (v := 0) hG rfl rfl ?_
        refine q_iload hG rfl rfl ?_
        refine q_iload_n hG rfl rfl ?_
        refine q_iadd hG rfl ?_
        refine q_callV6 hG rfl rfl rfl (by assumption) (s_R_bec0 (w := 2) hm0 ?_)
        refine lj I ?_ (rfr.refl I m)
        unfold loM
        first
        | rw [if_pos (show (rfS I m).1 f.toNat = (rfS I m).2.1 f.toNat from hfx), if_neg (show ¬ (dR I m f.toNat 2 - g < (rfS I m).1 x.toNat ∧ (rfS I m).1 x.toNat < dR I m f.toNat 2 + g) by show ¬ (dR I m f.toNat 2 - g < dR I m x.toNat 2 ∧ dR I m x.toNat 2 < dR I m f.toNat 2 + g); omega)]
        | rw [if_neg (show ¬ (rfS I m).1 f.toNat = (rfS I m).2.1 f.toNat from hfx)]
      · refine q_iconst (v := 1) hG rfl rfl ?_
        refine q_goto hG rfl ?_
        refine q_iload hG rfl rfl ?_
        refine q_iload_n hG rfl rfl ?_
        refine q_iadd hG rfl ?_
        refine q_callV6 hG rfl rfl rfl (by assumption) (s_R_bec1 (w := 2) hm0 ⟨by omega, by omega⟩ (by decide) ?_)
        obtain ⟨a1, a2⟩ := rfr_lo (I := I) (m := m) (x := x.toNat) (v := dR I m f.toNat 2 + g) (by omega)
        refine lj _ ?_ a2
        rw [a1]
        unfold loM
        rw [if_pos (show (rfS I m).1 f.toNat = (rfS I m).2.1 f.toNat from hfx), if_pos (show dR I m f.toNat 2 - g < (rfS I m).1 x.toNat ∧ (rfS I m).1 x.toNat < dR I m f.toNat 2 + g by show dR I m f.toNat 2 - g < dR I m x.toNat 2 ∧ dR I m x.toNat 2 < dR I m f.toNat 2 + g; omega)]
  · refine q_if_eq hG rfl ⟨by omega, by omega⟩ (fun _ => ?_) (fun q => absurd (by decide) q)
    refine q_iconst (v := 0) hG rfl rfl ?_
    refine q_iload hG rfl rfl ?_
    refine q_iload_n hG rfl rfl ?_
    refine q_iadd hG rfl ?_
    refine q_callV6 hG rfl rfl rfl (by assumption) (s_R_bec0 (w := 2) hm0 ?_)
    refine lj I ?_ (rfr.refl I m)
    unfold loM
    first
    | rw [if_pos (show (rfS I m).1 f.toNat = (rfS I m).2.1 f.toNat from hfx), if_neg (show ¬ (dR I m f.toNat 2 - g < (rfS I m).1 x.toNat ∧ (rfS I m).1 x.toNat < dR I m f.toNat 2 + g) by show ¬ (dR I m f.toNat 2 - g < dR I m x.toNat 2 ∧ dR I m x.toNat 2 < dR I m f.toNat 2 + g); omega)]
    | rw [if_neg (show ¬ (rfS I m).1 f.toNat = (rfS I m).2.1 f.toNat from hfx)]
theorem s_R_narrows {d : Nat} {B : HP} {I : IM} {Post : Out → HP → Prop} {m : Nat} (hm : oM B m) {p : Nat} (hp10 : p < 180) (hF : 0 ≤ (cR I m p 2) ∧ (cR I m p 2) < 6) (hS2 : 0 ≤ (cR I m p 3) ∧ (cR I m p 3) < 6) (hFS : (cR I m p 2) ≠ (cR I m p 3)) (hg : 0 ≤ (cR I m p 4) ∧ (cR I m p 4) ≤ 20) (hK2 : 0 ≤ (cR I m p 1) ∧ (cR I m p 1) < 65536) (hS : okB (rfS I m)) (hp : ∀ J : IM, rfS J m = sp1 (cR I m p 1) (cR I m p 2).toNat (cR I m p 3).toNat (cR I m p 4) (rfS I m) → rfr I J m → Post (.inl none) (wI B J)) : Sp (d + 5) k_X9_narrows [.ref m, .int (i3 ((p : Int)))] (wI B I) Post := by
  refine Sp_intro md_X9_narrows rfl rfl (fun G hG => ?_)
  have hm0 := hm
  obtain ⟨n1, n2, n3, n4, n5, n6, n7, n8, n9, n10, n11⟩ := hm
  have b0 := okB_bd hS
  have q0a : -40 ≤ dR I m (cR I m p 2).toNat 2 ∧ dR I m (cR I m p 2).toNat 2 ≤ 40 ∧ -40 ≤ dR I m (cR I m p 2).toNat 3 ∧ dR I m (cR I m p 2).toNat 3 ≤ 40 := b0 (cR I m p 2).toNat (by omega)
  have q0b : -40 ≤ dR I m (cR I m p 3).toNat 2 ∧ dR I m (cR I m p 3).toNat 2 ≤ 40 ∧ -40 ≤ dR I m (cR I m p 3).toNat 3 ∧ dR I m (cR I m p 3).toNat 3 ≤ 40 := b0 (cR I m p 3).toNat (by omega)
  show G 0 [some (.ref m), some (.int (i3 ((p : Int)))), none, none, none] [] (wI B I)
  refine q_aload_n hG rfl rfl ?_
  refine q_iload_n hG rfl rfl ?_
  refine q_iconst (v := 2) hG rfl rfl ?_
  refine q_callV6 hG rfl rfl rfl (by assumption) (s_R_cN (w := 2) hm0 (by omega) (by decide) ?_)
  refine q_istore_n hG rfl rfl ?_
  refine q_aload_n hG rfl rfl ?_
  refine q_iload_n hG rfl rfl ?_
  refine q_iconst (v := 3) hG rfl rfl ?_
  refine q_callV6 hG rfl rfl rfl (by assumption) (s_R_cN (w := 3) hm0 (by omega) (by decide) ?_)
  refine q_istore_n hG rfl rfl ?_
  refine q_aload_n hG rfl rfl ?_
  refine q_iload_n hG rfl rfl ?_
  refine q_iconst (v := 4) hG rfl rfl ?_
  refine q_callV6 hG rfl rfl rfl (by assumption) (s_R_cN (w := 4) hm0 (by omega) (by decide) ?_)
  refine q_istore hG rfl rfl ?_
  refine q_aload_n hG rfl rfl ?_
  refine q_iload_n hG rfl rfl ?_
  refine q_iconst (v := 1) hG rfl rfl ?_
  refine q_callV6 hG rfl rfl rfl (by assumption) (s_R_cN (w := 1) hm0 (by omega) (by decide) ?_)
  refine q_bipush (v := 35) hG rfl rfl ?_
  refine q_icmp_ne hG rfl ⟨by omega, by omega⟩ ⟨by omega, by omega⟩ (fun hc30 => ?_) (fun hc30 => ?_)
  · refine q_aload_n hG rfl rfl ?_
    refine q_iload_n hG rfl rfl ?_
    refine q_aload_n hG rfl rfl ?_
    refine q_iload_n hG rfl rfl ?_
    refine q_iconst (v := 2) hG rfl rfl ?_
    refine q_callV6 hG rfl rfl rfl (by assumption) (s_R_d (w := 2) hm0 ⟨by omega, by omega⟩ (by decide) ?_)
    refine q_iload hG rfl rfl ?_
    refine q_iadd hG rfl ?_
    refine q_callV6 hG rfl rfl rfl (by assumption) (s_R_raises hm0 hS2 ⟨by omega, by omega⟩ ⟨by omega, by omega⟩ (fun J1 e1 h1 => ?_))
    have b1 := bdB_rs (x := (cR I m p 3).toNat) (v := dR I m (cR I m p 2).toNat 2 + (cR I m p 4)) (bdB_up b0 (show (40 : Int) ≤ 60 by omega)) (by omega)
    rw [← e1] at b1
    have q1a : -60 ≤ dR J1 m (cR I m p 2).toNat 2 ∧ dR J1 m (cR I m p 2).toNat 2 ≤ 60 ∧ -60 ≤ dR J1 m (cR I m p 2).toNat 3 ∧ dR J1 m (cR I m p 2).toNat 3 ≤ 60 := b1 (cR I m p 2).toNat (by omega)
    have q1b : -60 ≤ dR J1 m (cR I m p 3).toNat 2 ∧ dR J1 m (cR I m p 3).toNat 2 ≤ 60 ∧ -60 ≤ dR J1 m (cR I m p 3).toNat 3 ∧ dR J1 m (cR I m p 3).toNat 3 ≤ 60 := b1 (cR I m p 3).toNat (by omega)
    refine q_aload_n hG rfl rfl ?_
    refine q_iload_n hG rfl rfl ?_
    refine q_aload_n hG rfl rfl ?_
    refine q_iload_n hG rfl rfl ?_
    refine q_iconst (v := 3) hG rfl rfl ?_
    refine q_callV6 hG rfl rfl rfl (by assumption) (s_R_d (w := 3) hm0 ⟨by omega, by omega⟩ (by decide) ?_)
    refine q_iload hG rfl rfl ?_
    refine q_isub hG rfl ?_
    refine q_callV6 hG rfl rfl rfl (by assumption) (s_R_lowers hm0 hF ⟨by omega, by omega⟩ ⟨by omega, by omega⟩ (fun J2 e2 h2 => ?_))
    have b2 := bdB_sk (x := (cR I m p 2).toNat) (v := dR J1 m (cR I m p 3).toNat 3 - (cR I m p 4)) (bdB_up b1 (show (60 : Int) ≤ 80 by omega)) (by omega)
    rw [← e2] at b2
    have q2a : -80 ≤ dR J2 m (cR I m p 2).toNat 2 ∧ dR J2 m (cR I m p 2).toNat 2 ≤ 80 ∧ -80 ≤ dR J2 m (cR I m p 2).toNat 3 ∧ dR J2 m (cR I m p 2).toNat 3 ≤ 80 := b2 (cR I m p 2).toNat (by omega)
    have q2b : -80 ≤ dR J2 m (cR I m p 3).toNat 2 ∧ dR J2 m (cR I m p 3).toNat 2 ≤ 80 ∧ -80 ≤ dR J2 m (cR I m p 3).toNat 3 ∧ dR J2 m (cR I m p 3).toNat 3 ≤ 80 := b2 (cR I m p 3).toNat (by omega)
    refine q_aload_n hG rfl rfl ?_
    refine q_iload_n hG rfl rfl ?_
    refine q_iconst (v := 1) hG rfl rfl ?_
    refine q_callV6 hG rfl rfl rfl (by assumption) (s_R_cN (w := 1) hm0 (by omega) (by decide) ?_)
    rw [h2.c, h1.c]
    refine q_bipush (v := 61) hG rfl rfl ?_
    refine q_icmp_ne hG rfl ⟨by omega, by omega⟩ ⟨by omega, by omega⟩ (fun hc86 => ?_) (fun hc86 => ?_)
    · refine q_vret hG rfl ?_
      refine hp _ ?_ (h1.trans h2)
      have e2 : rfS J2 m = skM (rfS J1 m) (cR I m p 2).toNat ((rfS J1 m).2.1 (cR I m p 3).toNat - (cR I m p 4)) := e2
      have e1 : rfS J1 m = rsM (rfS I m) (cR I m p 3).toNat ((rfS I m).1 (cR I m p 2).toNat + (cR I m p 4)) := e1
      rw [e2, e1]
      unfold sp1
      rw [if_neg (show ¬ (cR I m p 1) = 35 by omega), if_neg (show ¬ (cR I m p 1) = 61 by omega)]
      rfl
    · refine q_aload_n hG rfl rfl ?_
      refine q_iload_n hG rfl rfl ?_
      refine q_aload_n hG rfl rfl ?_
      refine q_iload_n hG rfl rfl ?_
      refine q_iconst (v := 2) hG rfl rfl ?_
      refine q_callV6 hG rfl rfl rfl (by assumption) (s_R_d (w := 2) hm0 ⟨by omega, by omega⟩ (by decide) ?_)
      refine q_iload hG rfl rfl ?_
      refine q_isub hG rfl ?_
      refine q_callV6 hG rfl rfl rfl (by assumption) (s_R_raises hm0 hF ⟨by omega, by omega⟩ ⟨by omega, by omega⟩ (fun J3 e3 h3 => ?_))
      have b3 := bdB_rs (x := (cR I m p 2).toNat) (v := dR J2 m (cR I m p 3).toNat 2 - (cR I m p 4)) (bdB_up b2 (show (80 : Int) ≤ 100 by omega)) (by omega)
      rw [← e3] at b3
      have q3a : -100 ≤ dR J3 m (cR I m p 2).toNat 2 ∧ dR J3 m (cR I m p 2).toNat 2 ≤ 100 ∧ -100 ≤ dR J3 m (cR I m p 2).toNat 3 ∧ dR J3 m (cR I m p 2).toNat 3 ≤ 100 := b3 (cR I m p 2).toNat (by omega)
      have q3b : -100 ≤ dR J3 m (cR I m p 3).toNat 2 ∧ dR J3 m (cR I m p 3).toNat 2 ≤ 100 ∧ -100 ≤ dR J3 m (cR I m p 3).toNat 3 ∧ dR J3 m (cR I m p 3).toNat 3 ≤ 100 := b3 (cR I m p 3).toNat (by omega)
      refine q_aload_n hG rfl rfl ?_
      refine q_iload_n hG rfl rfl ?_
      refine q_aload_n hG rfl rfl ?_
      refine q_iload_n hG rfl rfl ?_
      refine q_iconst (v := 3) hG rfl rfl ?_
      refine q_callV6 hG rfl rfl rfl (by assumption) (s_R_d (w := 3) hm0 ⟨by omega, by omega⟩ (by decide) ?_)
      refine q_iload hG rfl rfl ?_
      refine q_iadd hG rfl ?_
      refine q_callV6 hG rfl rfl rfl (by assumption) (s_R_lowers hm0 hS2 ⟨by omega, by omega⟩ ⟨by omega, by omega⟩ (fun J4 e4 h4 => ?_))
      refine q_vret hG rfl ?_
      refine hp _ ?_ (((h1.trans h2).trans h3).trans h4)
      have e4 : rfS J4 m = skM (rfS J3 m) (cR I m p 3).toNat ((rfS J3 m).2.1 (cR I m p 2).toNat + (cR I m p 4)) := e4
      have e3 : rfS J3 m = rsM (rfS J2 m) (cR I m p 2).toNat ((rfS J2 m).1 (cR I m p 3).toNat - (cR I m p 4)) := e3
      have e2 : rfS J2 m = skM (rfS J1 m) (cR I m p 2).toNat ((rfS J1 m).2.1 (cR I m p 3).toNat - (cR I m p 4)) := e2
      have e1 : rfS J1 m = rsM (rfS I m) (cR I m p 3).toNat ((rfS I m).1 (cR I m p 2).toNat + (cR I m p 4)) := e1
      have e5 : rfS J2 m = lwM (cR I m p 2).toNat (cR I m p 3).toNat (cR I m p 4) (rfS I m) := by rw [e2, e1]; rfl
      rw [e4, e3, e5]
      unfold sp1
      rw [if_neg (show ¬ (cR I m p 1) = 35 by omega), if_pos (show (cR I m p 1) = 61 by omega)]
      rfl
  · refine q_aload_n hG rfl rfl ?_
    refine q_iload_n hG rfl rfl ?_
    refine q_iload_n hG rfl rfl ?_
    refine q_iload hG rfl rfl ?_
    refine q_callV6 hG rfl rfl rfl (by assumption) (s_R_parts hm0 hF hS2 hFS hg (bdB_up b0 (by omega)) (fun J1 e1 h1 => ?_))
    have b1 := bdB_ko (x := (cR I m p 3).toNat) b0 (show (cR I m p 2).toNat < 6 by omega) hg
    rw [← e1] at b1
    refine q_aload_n hG rfl rfl ?_
    refine q_iload_n hG rfl rfl ?_
    refine q_iload_n hG rfl rfl ?_
    refine q_iload hG rfl rfl ?_
    refine q_callV6 hG rfl rfl rfl (by assumption) (s_R_parts hm0 hS2 hF hFS.symm hg (bdB_up b1 (by omega)) (fun J2 e2 h2 => ?_))
    refine q_vret hG rfl ?_
    refine hp _ ?_ (h1.trans h2)
    rw [e2, e1]
    unfold sp1
    rw [if_pos (show (cR I m p 1) = 35 by omega)]
def rWF (I : IM) (m : Nat) : Prop := (0 ≤ I (m + 1) 1 ∧ I (m + 1) 1 ≤ 10) ∧ ∀ p : Nat, (p : Int) < I (m + 1) 1 → (0 ≤ cR I m p 2 ∧ cR I m p 2 < 6) ∧ (0 ≤ cR I m p 3 ∧ cR I m p 3 < 6) ∧ (0 ≤ cR I m p 4 ∧ cR I m p 4 ≤ 20) ∧ (cR I m p 1 = 60 ∨ cR I m p 1 = 61 ∨ cR I m p 1 = 35) ∧ r32 (cR I m p 0) ∧ cR I m p 2 ≠ cR I m p 3
def rnI (I : IM) (m : Nat) : CN := fun p => (cR I m p 1, (cR I m p 2).toNat, (cR I m p 3).toNat, cR I m p 4)
theorem rfr.cn {I J : IM} {m : Nat} (h : rfr I J m) : rnI J m = rnI I m := by
  funext p
  unfold rnI
  rw [h.c, h.c, h.c, h.c]
theorem rfr.n {I J : IM} {m : Nat} (h : rfr I J m) (k : Nat) (hk : k < 5) : J (m + 1) k = I (m + 1) k := h.2.2 k (by omega)
theorem rfr.wf {I J : IM} {m : Nat} (h : rfr I J m) (hr : rWF I m) : rWF J m := by
  unfold rWF
  rw [h.n 1 (by omega)]
  refine ⟨hr.1, fun p hp => ?_⟩
  rw [h.c, h.c, h.c, h.c, h.c]
  exact hr.2 p hp
theorem rWF_6 {I : IM} {m : Nat} (h : rWF I m) : ∀ p, p < (I (m + 1) 1).toNat → (rnI I m p).2.1 < 6 ∧ (rnI I m p).2.2.1 < 6 := fun p hp => by
  obtain ⟨⟨a1, a2⟩, ⟨b1, b2⟩, -⟩ := h.2 p (by omega)
  exact ⟨by show (cR I m p 2).toNat < 6; omega, by show (cR I m p 3).toNat < 6; omega⟩

theorem s_R_goes {d : Nat} {B : HP} {I : IM} {Post : Out → HP → Prop} {m : Nat} (hm : oM B m) {wo wa : Int} (hwa : (wo = 1 ∧ wa = 0) ∨ (wo = 0 ∧ wa = 1)) (hcf : rWF I m) (hS : okB (rfS I m)) (p1 : ∀ J : IM, (paM (rnI I m) wa (I (m + 1) 1).toNat 0 (rfS I m)).2 = none → rfS J m = (paM (rnI I m) wa (I (m + 1) 1).toNat 0 (rfS I m)).1 → rfr I J m → Post (.inl (some (.int (i3 (-1))))) (wI B J)) (p0 : ∀ (J : IM) (p : Nat), (paM (rnI I m) wa (I (m + 1) 1).toNat 0 (rfS I m)).2 = some p → p < (I (m + 1) 1).toNat → rfr I J m → Post (.inl (some (.int (i3 (p : Int))))) (wI B J)) : Sp (d + 6) k_X9_goesThrough [.ref m, .int (i3 (wo))] (wI B I) Post := by
  refine Sp_intro md_X9_goesThrough rfl rfl (fun G hG => ?_)
  have hm0 := hm
  obtain ⟨n1, n2, n3, n4, n5, n6, n7, n8, n9, n10, n11⟩ := hm
  have hcf0 := hcf
  obtain ⟨hn, hcf⟩ := hcf
  have lp : ∀ (mz : Nat) (k : Nat) (J : IM), (I (m + 1) 1).toNat - k = mz → k ≤ (I (m + 1) 1).toNat → rfr I J m → okB (rfS J m) → paM (rnI I m) wa ((I (m + 1) 1).toNat - k) k (rfS J m) = paM (rnI I m) wa (I (m + 1) 1).toNat 0 (rfS I m) → G 2 [some (.ref m), some (.int (i3 wo)), some (.int (i3 (k : Int)))] [] (wI B J) := by
    intro mz
    induction mz using Nat.strongRecOn with
    | ind mz ih =>
      intro k J hme hk hfr hok hpa
      refine q_iload_n hG rfl rfl ?_
      refine q_aload_n hG rfl rfl ?_
      refine q_getR hG rfl (by assumption) (by assumption) ?_
      refine q_iconst (v := 1) hG rfl rfl ?_
      refine q_ialdv (v := I (m + 1) 1) hG rfl (by assumption) ⟨by omega, by omega, by omega⟩ (hfr.n 1 (by omega)) ?_
      refine q_icmp_ge hG rfl ⟨by omega, by omega⟩ ⟨by omega, by omega⟩ (fun hc9 => ?_) (fun hc9 => ?_)
      · refine q_iconst (v := -1) hG rfl rfl ?_
        refine q_iret0 hG rfl rfl ?_
        have e0 : paM (rnI I m) wa (I (m + 1) 1).toNat 0 (rfS I m) = (rfS J m, none) := by
          rw [← hpa, show (I (m + 1) 1).toNat - k = 0 by omega]
          rfl
        exact p1 _ (by rw [e0]) (by rw [e0]) hfr
      · obtain ⟨hF, hS2, hg, hK2, hid, hFS⟩ := hcf k (by omega)
        refine q_iload_n hG rfl rfl ?_
        refine q_if_eq hG rfl ⟨by omega, by omega⟩ (fun hc13 => ?_) (fun hc13 => ?_)
        · refine q_aload_n hG rfl rfl ?_
          refine q_iload_n hG rfl rfl ?_
          refine q_callV6 hG rfl rfl rfl (by assumption) (s_R_narrows (p := k) hm0 (by omega) (by rw [hfr.c]; exact hF) (by rw [hfr.c]; exact hS2) (by rw [hfr.c, hfr.c]; exact hFS) (by rw [hfr.c]; exact hg) (by rw [hfr.c]; omega) hok (fun J2 e1 h2 => ?_))
          have b2 : bdB 400 (rfS J2 m) := by
            rw [e1]
            have b0 := okB_bd hok
            have f3 : (cR J m k 2).toNat < 6 := by rw [hfr.c]; omega
            have f4 : (cR J m k 3).toNat < 6 := by rw [hfr.c]; omega
            exact sp1_bd b0 f3 f4 (by rw [hfr.c]; exact hg)
          refine q_aload_n hG rfl rfl ?_
          refine q_aload_n hG rfl rfl ?_
          refine q_iload_n hG rfl rfl ?_
          refine q_iconst (v := 2) hG rfl rfl ?_
          refine q_callV6 hG rfl rfl rfl (by assumption) (s_R_cN (w := 2) hm0 (by omega) (by decide) ?_)
          rw [h2.c, hfr.c]
          refine q_callV6 hG rfl rfl rfl (by assumption) (s_R_torn hm0 (by omega) (by have q := b2 (cR I m k 2).toNat (by omega); exact ⟨by have : -400 ≤ dR J2 m (cR I m k 2).toNat 2 := q.1; omega, by have : dR J2 m (cR I m k 2).toNat 2 ≤ 400 := q.2.1; omega⟩) (by have q := b2 (cR I m k 2).toNat (by omega); exact ⟨by have : -400 ≤ dR J2 m (cR I m k 2).toNat 3 := q.2.2.1; omega, by have : dR J2 m (cR I m k 2).toNat 3 ≤ 400 := q.2.2.2; omega⟩) (fun he1 => ?_) (fun he1 => ?_))
          · refine q_if_ne hG rfl ⟨by omega, by omega⟩ (fun _ => ?_) (fun q => absurd (by decide) q)
            refine q_iload_n hG rfl rfl ?_
            refine q_iret0 hG rfl rfl ?_
            have e2 : sp1 (rnI I m k).1 (rnI I m k).2.1 (rnI I m k).2.2.1 (rnI I m k).2.2.2 (rfS J m) = rfS J2 m := by
              rw [e1, hfr.c, hfr.c, hfr.c, hfr.c]
              rfl
            have e0 : paM (rnI I m) wa (I (m + 1) 1).toNat 0 (rfS I m) = (rfS J2 m, some k) := by
              rw [← hpa, show (I (m + 1) 1).toNat - k = (I (m + 1) 1).toNat - (k + 1) + 1 by omega]
              refine paM_conf ?_ e2 ?_
              · intro z
                have z1 : cR I m k 1 = 35 := z.1
                omega
              · first
                | exact Or.inl he1
                | exact Or.inr he2
            exact p0 _ k (by rw [e0]) (by omega) (hfr.trans h2)
          · refine q_if_ne hG rfl ⟨by omega, by omega⟩ (fun q => absurd q (by decide)) (fun _ => ?_)
            refine q_aload_n hG rfl rfl ?_
            refine q_aload_n hG rfl rfl ?_
            refine q_iload_n hG rfl rfl ?_
            refine q_iconst (v := 3) hG rfl rfl ?_
            refine q_callV6 hG rfl rfl rfl (by assumption) (s_R_cN (w := 3) hm0 (by omega) (by decide) ?_)
            rw [h2.c, hfr.c]
            refine q_callV6 hG rfl rfl rfl (by assumption) (s_R_torn hm0 (by omega) (by have q := b2 (cR I m k 3).toNat (by omega); exact ⟨by have : -400 ≤ dR J2 m (cR I m k 3).toNat 2 := q.1; omega, by have : dR J2 m (cR I m k 3).toNat 2 ≤ 400 := q.2.1; omega⟩) (by have q := b2 (cR I m k 3).toNat (by omega); exact ⟨by have : -400 ≤ dR J2 m (cR I m k 3).toNat 3 := q.2.2.1; omega, by have : dR J2 m (cR I m k 3).toNat 3 ≤ 400 := q.2.2.2; omega⟩) (fun he2 => ?_) (fun he2 => ?_))
            · refine q_if_eq hG rfl ⟨by omega, by omega⟩ (fun q => absurd q (by decide)) (fun _ => ?_)
              refine q_iload_n hG rfl rfl ?_
              refine q_iret0 hG rfl rfl ?_
              have e2 : sp1 (rnI I m k).1 (rnI I m k).2.1 (rnI I m k).2.2.1 (rnI I m k).2.2.2 (rfS J m) = rfS J2 m := by
                rw [e1, hfr.c, hfr.c, hfr.c, hfr.c]
                rfl
              have e0 : paM (rnI I m) wa (I (m + 1) 1).toNat 0 (rfS I m) = (rfS J2 m, some k) := by
                rw [← hpa, show (I (m + 1) 1).toNat - k = (I (m + 1) 1).toNat - (k + 1) + 1 by omega]
                refine paM_conf ?_ e2 ?_
                · intro z
                  have z1 : cR I m k 1 = 35 := z.1
                  omega
                · first
                  | exact Or.inl he1
                  | exact Or.inr he2
              exact p0 _ k (by rw [e0]) (by omega) (hfr.trans h2)
            · refine q_if_eq hG rfl ⟨by omega, by omega⟩ (fun _ => ?_) (fun q => absurd (by decide) q)
              refine q_iinc (c := 1) hG rfl rfl rfl rfl ?_
              refine q_goto hG rfl ?_
              first
              | refine ih _ (by omega) (k + 1) J rfl (by omega) hfr hok (Eq.trans ?_ hpa)
                rw [show (I (m + 1) 1).toNat - k = (I (m + 1) 1).toNat - (k + 1) + 1 by omega, paM_skip (show (rnI I m k).1 = 35 ∧ wa = 0 from ⟨by show cR I m k 1 = 35; omega, by omega⟩)]
              | have e2 : sp1 (rnI I m k).1 (rnI I m k).2.1 (rnI I m k).2.2.1 (rnI I m k).2.2.2 (rfS J m) = rfS J2 m := by
                  rw [e1, hfr.c, hfr.c, hfr.c, hfr.c]
                  rfl
                have nt : ¬ ((rfS J2 m).2.1 (rnI I m k).2.1 < (rfS J2 m).1 (rnI I m k).2.1 ∨ (rfS J2 m).2.1 (rnI I m k).2.2.1 < (rfS J2 m).1 (rnI I m k).2.2.1) := by
                  intro z
                  rcases z with z | z
                  · exact he1 z
                  · exact he2 z
                have c6 := rWF_6 hcf0 k (by omega)
                refine ih _ (by omega) (k + 1) J2 rfl (by omega) (hfr.trans h2) ?_ (Eq.trans ?_ hpa)
                · rw [← e2]
                  rw [← e2] at nt
                  exact okB_step hok (sp1_n _ _ _ c6.1 c6.2) (sp1_s _ _ _ _ _) (fun z => nt (Or.inl z)) (fun z => nt (Or.inr z))
                · rw [show (I (m + 1) 1).toNat - k = (I (m + 1) 1).toNat - (k + 1) + 1 by omega]
                  refine (paM_step ?_ e2 nt).symm
                  intro z
                  have z1 : cR I m k 1 = 35 := z.1
                  omega
        · refine q_aload_n hG rfl rfl ?_
          refine q_iload_n hG rfl rfl ?_
          refine q_iconst (v := 1) hG rfl rfl ?_
          refine q_callV6 hG rfl rfl rfl (by assumption) (s_R_cN (w := 1) hm0 (by omega) (by decide) ?_)
          rw [hfr.c]
          refine q_bipush (v := 35) hG rfl rfl ?_
          refine q_icmp_ne hG rfl ⟨by omega, by omega⟩ ⟨by omega, by omega⟩ (fun hc24 => ?_) (fun hc24 => ?_)
          · refine q_aload_n hG rfl rfl ?_
            refine q_iload_n hG rfl rfl ?_
            refine q_callV6 hG rfl rfl rfl (by assumption) (s_R_narrows (p := k) hm0 (by omega) (by rw [hfr.c]; exact hF) (by rw [hfr.c]; exact hS2) (by rw [hfr.c, hfr.c]; exact hFS) (by rw [hfr.c]; exact hg) (by rw [hfr.c]; omega) hok (fun J2 e1 h2 => ?_))
            have b2 : bdB 400 (rfS J2 m) := by
              rw [e1]
              have b0 := okB_bd hok
              have f3 : (cR J m k 2).toNat < 6 := by rw [hfr.c]; omega
              have f4 : (cR J m k 3).toNat < 6 := by rw [hfr.c]; omega
              exact sp1_bd b0 f3 f4 (by rw [hfr.c]; exact hg)
            refine q_aload_n hG rfl rfl ?_
            refine q_aload_n hG rfl rfl ?_
            refine q_iload_n hG rfl rfl ?_
            refine q_iconst (v := 2) hG rfl rfl ?_
            refine q_callV6 hG rfl rfl rfl (by assumption) (s_R_cN (w := 2) hm0 (by omega) (by decide) ?_)
            rw [h2.c, hfr.c]
            refine q_callV6 hG rfl rfl rfl (by assumption) (s_R_torn hm0 (by omega) (by have q := b2 (cR I m k 2).toNat (by omega); exact ⟨by have : -400 ≤ dR J2 m (cR I m k 2).toNat 2 := q.1; omega, by have : dR J2 m (cR I m k 2).toNat 2 ≤ 400 := q.2.1; omega⟩) (by have q := b2 (cR I m k 2).toNat (by omega); exact ⟨by have : -400 ≤ dR J2 m (cR I m k 2).toNat 3 := q.2.2.1; omega, by have : dR J2 m (cR I m k 2).toNat 3 ≤ 400 := q.2.2.2; omega⟩) (fun he1 => ?_) (fun he1 => ?_))
            · refine q_if_ne hG rfl ⟨by omega, by omega⟩ (fun _ => ?_) (fun q => absurd (by decide) q)
              refine q_iload_n hG rfl rfl ?_
              refine q_iret0 hG rfl rfl ?_
              have e2 : sp1 (rnI I m k).1 (rnI I m k).2.1 (rnI I m k).2.2.1 (rnI I m k).2.2.2 (rfS J m) = rfS J2 m := by
                rw [e1, hfr.c, hfr.c, hfr.c, hfr.c]
                rfl
              have e0 : paM (rnI I m) wa (I (m + 1) 1).toNat 0 (rfS I m) = (rfS J2 m, some k) := by
                rw [← hpa, show (I (m + 1) 1).toNat - k = (I (m + 1) 1).toNat - (k + 1) + 1 by omega]
                refine paM_conf ?_ e2 ?_
                · intro z
                  have z1 : cR I m k 1 = 35 := z.1
                  omega
                · first
                  | exact Or.inl he1
                  | exact Or.inr he2
              exact p0 _ k (by rw [e0]) (by omega) (hfr.trans h2)
            · refine q_if_ne hG rfl ⟨by omega, by omega⟩ (fun q => absurd q (by decide)) (fun _ => ?_)
              refine q_aload_n hG rfl rfl ?_
              refine q_aload_n hG rfl rfl ?_
              refine q_iload_n hG rfl rfl ?_
              refine q_iconst (v := 3) hG rfl rfl ?_
              refine q_callV6 hG rfl rfl rfl (by assumption) (s_R_cN (w := 3) hm0 (by omega) (by decide) ?_)
              rw [h2.c, hfr.c]
              refine q_callV6 hG rfl rfl rfl (by assumption) (s_R_torn hm0 (by omega) (by have q := b2 (cR I m k 3).toNat (by omega); exact ⟨by have : -400 ≤ dR J2 m (cR I m k 3).toNat 2 := q.1; omega, by have : dR J2 m (cR I m k 3).toNat 2 ≤ 400 := q.2.1; omega⟩) (by have q := b2 (cR I m k 3).toNat (by omega); exact ⟨by have : -400 ≤ dR J2 m (cR I m k 3).toNat 3 := q.2.2.1; omega, by have : dR J2 m (cR I m k 3).toNat 3 ≤ 400 := q.2.2.2; omega⟩) (fun he2 => ?_) (fun he2 => ?_))
              · refine q_if_eq hG rfl ⟨by omega, by omega⟩ (fun q => absurd q (by decide)) (fun _ => ?_)
                refine q_iload_n hG rfl rfl ?_
                refine q_iret0 hG rfl rfl ?_
                have e2 : sp1 (rnI I m k).1 (rnI I m k).2.1 (rnI I m k).2.2.1 (rnI I m k).2.2.2 (rfS J m) = rfS J2 m := by
                  rw [e1, hfr.c, hfr.c, hfr.c, hfr.c]
                  rfl
                have e0 : paM (rnI I m) wa (I (m + 1) 1).toNat 0 (rfS I m) = (rfS J2 m, some k) := by
                  rw [← hpa, show (I (m + 1) 1).toNat - k = (I (m + 1) 1).toNat - (k + 1) + 1 by omega]
                  refine paM_conf ?_ e2 ?_
                  · intro z
                    have z1 : cR I m k 1 = 35 := z.1
                    omega
                  · first
                    | exact Or.inl he1
                    | exact Or.inr he2
                exact p0 _ k (by rw [e0]) (by omega) (hfr.trans h2)
              · refine q_if_eq hG rfl ⟨by omega, by omega⟩ (fun _ => ?_) (fun q => absurd (by decide) q)
                refine q_iinc (c := 1) hG rfl rfl rfl rfl ?_
                refine q_goto hG rfl ?_
                first
                | refine ih _ (by omega) (k + 1) J rfl (by omega) hfr hok (Eq.trans ?_ hpa)
                  rw [show (I (m + 1) 1).toNat - k = (I (m + 1) 1).toNat - (k + 1) + 1 by omega, paM_skip (show (rnI I m k).1 = 35 ∧ wa = 0 from ⟨by show cR I m k 1 = 35; omega, by omega⟩)]
                | have e2 : sp1 (rnI I m k).1 (rnI I m k).2.1 (rnI I m k).2.2.1 (rnI I m k).2.2.2 (rfS J m) = rfS J2 m := by
                    rw [e1, hfr.c, hfr.c, hfr.c, hfr.c]
                    rfl
                  have nt : ¬ ((rfS J2 m).2.1 (rnI I m k).2.1 < (rfS J2 m).1 (rnI I m k).2.1 ∨ (rfS J2 m).2.1 (rnI I m k).2.2.1 < (rfS J2 m).1 (rnI I m k).2.2.1) := by
                    intro z
                    rcases z with z | z
                    · exact he1 z
                    · exact he2 z
                  have c6 := rWF_6 hcf0 k (by omega)
                  refine ih _ (by omega) (k + 1) J2 rfl (by omega) (hfr.trans h2) ?_ (Eq.trans ?_ hpa)
                  · rw [← e2]
                    rw [← e2] at nt
                    exact okB_step hok (sp1_n _ _ _ c6.1 c6.2) (sp1_s _ _ _ _ _) (fun z => nt (Or.inl z)) (fun z => nt (Or.inr z))
                  · rw [show (I (m + 1) 1).toNat - k = (I (m + 1) 1).toNat - (k + 1) + 1 by omega]
                    refine (paM_step ?_ e2 nt).symm
                    intro z
                    have z1 : cR I m k 1 = 35 := z.1
                    omega
          · refine q_goto hG rfl ?_
            refine q_iinc (c := 1) hG rfl rfl rfl rfl ?_
            refine q_goto hG rfl ?_
            first
            | refine ih _ (by omega) (k + 1) J rfl (by omega) hfr hok (Eq.trans ?_ hpa)
              rw [show (I (m + 1) 1).toNat - k = (I (m + 1) 1).toNat - (k + 1) + 1 by omega, paM_skip (show (rnI I m k).1 = 35 ∧ wa = 0 from ⟨by show cR I m k 1 = 35; omega, by omega⟩)]
            | have e2 : sp1 (rnI I m k).1 (rnI I m k).2.1 (rnI I m k).2.2.1 (rnI I m k).2.2.2 (rfS J m) = rfS J2 m := by
                rw [e1, hfr.c, hfr.c, hfr.c, hfr.c]
                rfl
              have nt : ¬ ((rfS J2 m).2.1 (rnI I m k).2.1 < (rfS J2 m).1 (rnI I m k).2.1 ∨ (rfS J2 m).2.1 (rnI I m k).2.2.1 < (rfS J2 m).1 (rnI I m k).2.2.1) := by
                intro z
                rcases z with z | z
                · exact he1 z
                · exact he2 z
              have c6 := rWF_6 hcf0 k (by omega)
              refine ih _ (by omega) (k + 1) J2 rfl (by omega) (hfr.trans h2) ?_ (Eq.trans ?_ hpa)
              · rw [← e2]
                rw [← e2] at nt
                exact okB_step hok (sp1_n _ _ _ c6.1 c6.2) (sp1_s _ _ _ _ _) (fun z => nt (Or.inl z)) (fun z => nt (Or.inr z))
              · rw [show (I (m + 1) 1).toNat - k = (I (m + 1) 1).toNat - (k + 1) + 1 by omega]
                refine (paM_step ?_ e2 nt).symm
                intro z
                have z1 : cR I m k 1 = 35 := z.1
                omega
  show G 0 [some (.ref m), some (.int (i3 (wo))), none] [] (wI B I)
  refine q_iconst (v := 0) hG rfl rfl ?_
  refine q_istore_n hG rfl rfl ?_
  exact lp _ 0 I rfl (by omega) (rfr.refl I m) hS rfl
