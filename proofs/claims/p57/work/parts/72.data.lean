/-! the data: frames, bounds, constraints -/
def df (u v : Int) : Int := if u = v then 0 else 1
def rD (I : IM) (b k : Nat) : Prop := r32 (I (b + 2) k) ∧ r32 (I (b + 3) k) ∧ r32 (I (b + 5) k) ∧ r32 (I (b + 6) k)
def dEq (I : IM) (s : Nat) (J : IM) (t : Nat) : Prop := J t 0 = I s 0 ∧ J t 4 = I s 4 ∧ J t 5 = I s 5 ∧ (∀ j, j < 6 → J (t + 2) j = I (s + 2) j ∧ J (t + 3) j = I (s + 3) j ∧ J (t + 5) j = I (s + 5) j ∧ J (t + 6) j = I (s + 6) j) ∧ J (t + 7) 0 = I (s + 7) 0 ∧ J (t + 7) 1 = I (s + 7) 1 ∧ ∀ j, j < 10 → J (t + 8) j = I (s + 8) j ∧ J (t + 9) j = I (s + 9) j ∧ J (t + 10) j = I (s + 10) j ∧ J (t + 11) j = I (s + 11) j ∧ J (t + 12) j = I (s + 12) j
def alwP (K lf hf ls hs g : Int) : Prop := if K = 60 then hf + g ≤ ls else if K = 61 then hf + g ≤ ls ∧ hs ≤ lf + g else hf + g ≤ ls ∨ hs + g ≤ lf
def nevP (K lf hf ls hs g : Int) : Prop := if K = 60 then hs < lf + g else if K = 61 then hs < lf + g ∨ hf + g < ls else hs < lf + g ∧ hf < ls + g
def sB (v : Int) : Prop := -10000 ≤ v ∧ v ≤ 10000
abbrev wdI (I : IM) (b k : Nat) : Int := I (b + 6) k - I (b + 5) k + 1
abbrev ctI (I : IM) (b : Nat) (x : Int) : Int := sm (fun k => if I (b + 10) k = x ∨ I (b + 11) k = x then 1 else 0) (I (b + 7) 0).toNat
abbrev ahP (I : IM) (b o x : Nat) : Prop := wdI I b o < wdI I b x ∨ (wdI I b o = wdI I b x ∧ (ctI I b x < ctI I b o ∨ (ctI I b o = ctI I b x ∧ o < x)))
theorem ctI_bd (I : IM) (b : Nat) (x : Int) (h : 0 ≤ I (b + 7) 0 ∧ I (b + 7) 0 ≤ 10) : 0 ≤ ctI I b x ∧ ctI I b x ≤ 10 := by
  have := sm_bd (f := fun k => if I (b + 10) k = x ∨ I (b + 11) k = x then 1 else 0) (a := 0) (b := 1) (I (b + 7) 0).toNat (fun z _ => by split <;> omega)
  unfold ctI
  omega

theorem s_D_has {d : Nat} {B : HP} {I : IM} {Post : Out → HP → Prop} {b : Nat} {x : Int} (hb : oD B b) (hx : r32 x) (hn : 0 ≤ I b 0 ∧ I b 0 ≤ 6) (p1 : 0 ≤ x → x < I b 0 → Post (.inl (some (.int (i3 1)))) (wI B I)) (p0 : ¬ (0 ≤ x ∧ x < I b 0) → Post (.inl (some (.int (i3 0)))) (wI B I)) : Sp (d + 1) k_X2_hasDoor [.ref b, .int (i3 (x))] (wI B I) Post := by
  refine Sp_intro md_X2_hasDoor rfl rfl (fun G hG => ?_)
  have hb1 := hb.1
  show G 0 [some (.ref b), some (.int (i3 (x)))] [] (wI B I)
  refine q_iload_n hG rfl rfl ?_
  refine q_if_lt hG rfl (hx) (fun hc1 => ?_) (fun hc1 => ?_)
  · refine q_iconst (v := 0) hG rfl rfl ?_
    refine q_iret5 hG rfl rfl (by decide) ?_
    exact p0 (by omega)
  · refine q_iload_n hG rfl rfl ?_
    refine q_aload_n hG rfl rfl ?_
    refine q_getI0 hG rfl (by assumption) ?_
    refine q_icmp_ge hG rfl (hx) ⟨by omega, by omega⟩ (fun hc9 => ?_) (fun hc9 => ?_)
    · refine q_iconst (v := 0) hG rfl rfl ?_
      refine q_iret5 hG rfl rfl (by decide) ?_
      exact p0 (by omega)
    · refine q_iconst (v := 1) hG rfl rfl ?_
      refine q_goto hG rfl ?_
      refine q_iret5 hG rfl rfl (by decide) ?_
      exact p1 (by omega) (by omega)
theorem s_D_diff {d : Nat} {B : HP} {I : IM} {Post : Out → HP → Prop} {b : Nat} {x : Int} (hb : oD B b) (hx : 0 ≤ x ∧ x < 6) (hr : rD I b x.toNat) (hp : Post (.inl (some (.int (i3 (df (I (b + 5) x.toNat) (I (b + 2) x.toNat) + df (I (b + 6) x.toNat) (I (b + 3) x.toNat)))))) (wI B I)) : Sp (d + 1) k_X2_differencesToFrame [.ref b, .int (i3 (x))] (wI B I) Post := by
  refine Sp_intro md_X2_differencesToFrame rfl rfl (fun G hG => ?_)
  have hb0 := hb
  obtain ⟨k1, k2, k3, k4, hF, hB, hC⟩ := hb
  obtain ⟨f1, f2, f3, f4, f5⟩ := hF
  obtain ⟨g1, g2, g3, g4, g5⟩ := hB
  obtain ⟨c1, c2, c3, c4, c5, c6, c7, c8, c9, c10, c11⟩ := hC
  show G 0 [some (.ref b), some (.int (i3 (x)))] [] (wI B I)
  refine q_aload_n hG rfl rfl ?_
  refine q_getR hG rfl (by assumption) (by assumption) ?_
  refine q_getR hG rfl (by assumption) (by assumption) ?_
  refine q_iload_n hG rfl rfl ?_
  refine q_ialdv (v := I (b + 5) x.toNat) hG rfl (by assumption) ⟨by omega, by omega, by omega⟩ rfl ?_
  refine q_aload_n hG rfl rfl ?_
  refine q_getR hG rfl (by assumption) (by assumption) ?_
  refine q_getR hG rfl (by assumption) (by assumption) ?_
  refine q_iload_n hG rfl rfl ?_
  refine q_ialdv (v := I (b + 2) x.toNat) hG rfl (by assumption) ⟨by omega, by omega, by omega⟩ rfl ?_
  refine q_icmp_eq hG rfl (hr.2.2.1) (hr.1) (fun hc18 => ?_) (fun hc18 => ?_)
  · refine q_iconst (v := 0) hG rfl rfl ?_
    refine q_aload_n hG rfl rfl ?_
    refine q_getR hG rfl (by assumption) (by assumption) ?_
    refine q_getR hG rfl (by assumption) (by assumption) ?_
    refine q_iload_n hG rfl rfl ?_
    refine q_ialdv (v := I (b + 6) x.toNat) hG rfl (by assumption) ⟨by omega, by omega, by omega⟩ rfl ?_
    refine q_aload_n hG rfl rfl ?_
    refine q_getR hG rfl (by assumption) (by assumption) ?_
    refine q_getR hG rfl (by assumption) (by assumption) ?_
    refine q_iload_n hG rfl rfl ?_
    refine q_ialdv (v := I (b + 3) x.toNat) hG rfl (by assumption) ⟨by omega, by omega, by omega⟩ rfl ?_
    refine q_icmp_eq hG rfl (hr.2.2.2) (hr.2.1) (fun hc44 => ?_) (fun hc44 => ?_)
    · refine q_iconst (v := 0) hG rfl rfl ?_
      refine q_iadd hG rfl ?_
      refine q_iret0 hG rfl rfl ?_
      first
      | rw [df, df, if_pos (by omega), if_pos (by omega)] at hp; exact hp
      | rw [df, df, if_pos (by omega), if_neg (by omega)] at hp; exact hp
      | rw [df, df, if_neg (by omega), if_pos (by omega)] at hp; exact hp
      | rw [df, df, if_neg (by omega), if_neg (by omega)] at hp; exact hp
    · refine q_iconst (v := 1) hG rfl rfl ?_
      refine q_goto hG rfl ?_
      refine q_iadd hG rfl ?_
      refine q_iret0 hG rfl rfl ?_
      first
      | rw [df, df, if_pos (by omega), if_pos (by omega)] at hp; exact hp
      | rw [df, df, if_pos (by omega), if_neg (by omega)] at hp; exact hp
      | rw [df, df, if_neg (by omega), if_pos (by omega)] at hp; exact hp
      | rw [df, df, if_neg (by omega), if_neg (by omega)] at hp; exact hp
  · refine q_iconst (v := 1) hG rfl rfl ?_
    refine q_goto hG rfl ?_
    refine q_aload_n hG rfl rfl ?_
    refine q_getR hG rfl (by assumption) (by assumption) ?_
    refine q_getR hG rfl (by assumption) (by assumption) ?_
    refine q_iload_n hG rfl rfl ?_
    refine q_ialdv (v := I (b + 6) x.toNat) hG rfl (by assumption) ⟨by omega, by omega, by omega⟩ rfl ?_
    refine q_aload_n hG rfl rfl ?_
    refine q_getR hG rfl (by assumption) (by assumption) ?_
    refine q_getR hG rfl (by assumption) (by assumption) ?_
    refine q_iload_n hG rfl rfl ?_
    refine q_ialdv (v := I (b + 3) x.toNat) hG rfl (by assumption) ⟨by omega, by omega, by omega⟩ rfl ?_
    refine q_icmp_eq hG rfl (hr.2.2.2) (hr.2.1) (fun hc44 => ?_) (fun hc44 => ?_)
    · refine q_iconst (v := 0) hG rfl rfl ?_
      refine q_iadd hG rfl ?_
      refine q_iret0 hG rfl rfl ?_
      first
      | rw [df, df, if_pos (by omega), if_pos (by omega)] at hp; exact hp
      | rw [df, df, if_pos (by omega), if_neg (by omega)] at hp; exact hp
      | rw [df, df, if_neg (by omega), if_pos (by omega)] at hp; exact hp
      | rw [df, df, if_neg (by omega), if_neg (by omega)] at hp; exact hp
    · refine q_iconst (v := 1) hG rfl rfl ?_
      refine q_goto hG rfl ?_
      refine q_iadd hG rfl ?_
      refine q_iret0 hG rfl rfl ?_
      first
      | rw [df, df, if_pos (by omega), if_pos (by omega)] at hp; exact hp
      | rw [df, df, if_pos (by omega), if_neg (by omega)] at hp; exact hp
      | rw [df, df, if_neg (by omega), if_pos (by omega)] at hp; exact hp
      | rw [df, df, if_neg (by omega), if_neg (by omega)] at hp; exact hp
theorem s_D_open {d : Nat} {B : HP} {I : IM} {Post : Out → HP → Prop} {b : Nat} (hb : oD B b) (hn : 0 ≤ I b 0 ∧ I b 0 ≤ 6) (hr : ∀ k, k < 6 → rD I b k) (hp : ∀ J : IM, (∀ j, j < 6 → J (b + 5) j = I (b + 2) j) → (∀ j, j < 6 → J (b + 6) j = I (b + 3) j) → (∀ a, a ≠ b + 5 → a ≠ b + 6 → J a = I a) → Post (.inl (some (.int (i3 (sm (fun k => df (I (b + 5) k) (I (b + 2) k) + df (I (b + 6) k) (I (b + 3) k)) (I b 0).toNat))))) (wI B J)) : Sp (d + 2) k_X2_openAll [.ref b] (wI B I) Post := by
  refine Sp_intro md_X2_openAll rfl rfl (fun G hG => ?_)
  have hb0 := hb
  obtain ⟨k1, k2, k3, k4, hF, hB, hC⟩ := hb
  obtain ⟨f1, f2, f3, f4, f5⟩ := hF
  obtain ⟨g1, g2, g3, g4, g5⟩ := hB
  obtain ⟨c1, c2, c3, c4, c5, c6, c7, c8, c9, c10, c11⟩ := hC
  have lp : ∀ (m : Nat) (k : Nat), (I b 0).toNat - k = m → k ≤ (I b 0).toNat → G 4 [some (.ref b), some (.int (i3 (sm (fun k => df (I (b + 5) k) (I (b + 2) k) + df (I (b + 6) k) (I (b + 3) k)) k))), some (.int (i3 (k : Int)))] [] (wI B I) := by
    intro m
    induction m using Nat.strongRecOn with
    | ind m ih =>
      intro k hme hk
      refine q_iload_n hG rfl rfl ?_
      refine q_aload_n hG rfl rfl ?_
      refine q_getI0 hG rfl (by assumption) ?_
      refine q_icmp_ge hG rfl ⟨by omega, by omega⟩ ⟨by omega, by omega⟩ (fun hc9 => ?_) (fun hc9 => ?_)
      · refine q_aload_n hG rfl rfl ?_
        refine q_getR hG rfl (by assumption) (by assumption) ?_
        refine q_aload_n hG rfl rfl ?_
        refine q_getR hG rfl (by assumption) (by assumption) ?_
        refine q_callV6 hG rfl rfl rfl (by assumption) (s_B_copy hb0.2.2.2.2.2.1 hb0.2.2.2.2.1 (by omega) (fun J h1 h2 h3 => ?_))
        refine q_iload_n hG rfl rfl ?_
        refine q_iret0 hG rfl rfl ?_
        rw [show (I b 0).toNat = k by omega] at hp
        exact hp J h1 h2 h3
      · refine q_iload_n hG rfl rfl ?_
        refine q_aload_n hG rfl rfl ?_
        refine q_iload_n hG rfl rfl ?_
        refine q_callV6 hG rfl rfl rfl (by assumption) (s_D_diff hb0 ⟨by omega, by omega⟩ (hr _ (by omega)) ?_)
        refine q_iadd hG rfl ?_
        refine q_istore_n hG rfl rfl ?_
        refine q_iinc (c := 1) hG rfl rfl rfl rfl ?_
        refine q_goto hG rfl ?_
        exact ih _ (by omega) (k + 1) rfl (by omega)
  show G 0 [some (.ref b), none, none] [] (wI B I)
  refine q_iconst (v := 0) hG rfl rfl ?_
  refine q_istore_n hG rfl rfl ?_
  refine q_iconst (v := 0) hG rfl rfl ?_
  refine q_istore_n hG rfl rfl ?_
  exact lp _ 0 rfl (by omega)
theorem s_D_inOrder {d : Nat} {B : HP} {I : IM} {Post : Out → HP → Prop} {b : Nat} {x : Int} (hb : oD B b) (hx : 0 ≤ x ∧ x < 6) (hr : rD I b x.toNat) (p1 : I (b + 5) x.toNat ≤ I (b + 6) x.toNat → I (b + 2) x.toNat ≤ I (b + 5) x.toNat → I (b + 6) x.toNat ≤ I (b + 3) x.toNat → Post (.inl (some (.int (i3 1)))) (wI B I)) (p0 : ¬ (I (b + 5) x.toNat ≤ I (b + 6) x.toNat ∧ I (b + 2) x.toNat ≤ I (b + 5) x.toNat ∧ I (b + 6) x.toNat ≤ I (b + 3) x.toNat) → Post (.inl (some (.int (i3 0)))) (wI B I)) : Sp (d + 2) k_X2_isInOrder [.ref b, .int (i3 (x))] (wI B I) Post := by
  refine Sp_intro md_X2_isInOrder rfl rfl (fun G hG => ?_)
  have hb0 := hb
  obtain ⟨k1, k2, k3, k4, hF, hB, hC⟩ := hb
  obtain ⟨f1, f2, f3, f4, f5⟩ := hF
  obtain ⟨g1, g2, g3, g4, g5⟩ := hB
  obtain ⟨c1, c2, c3, c4, c5, c6, c7, c8, c9, c10, c11⟩ := hC
  show G 0 [some (.ref b), some (.int (i3 (x)))] [] (wI B I)
  refine q_aload_n hG rfl rfl ?_
  refine q_getR hG rfl (by assumption) (by assumption) ?_
  refine q_iload_n hG rfl rfl ?_
  refine q_callV6 hG rfl rfl rfl (by assumption) (s_B_empty hb0.2.2.2.2.2.1 hx hr.2.2.1 hr.2.2.2 (fun he => ?_) (fun he => ?_))
  · have he : I (b + 6) x.toNat < I (b + 5) x.toNat := he
    refine q_if_ne hG rfl ⟨by omega, by omega⟩ (fun _ => ?_) (fun q => absurd (by decide) q)
    refine q_iconst (v := 0) hG rfl rfl ?_
    refine q_iret5 hG rfl rfl (by decide) ?_
    exact p0 (by omega)
  · have he : ¬ I (b + 6) x.toNat < I (b + 5) x.toNat := he
    refine q_if_ne hG rfl ⟨by omega, by omega⟩ (fun q => absurd q (by decide)) (fun _ => ?_)
    refine q_aload_n hG rfl rfl ?_
    refine q_getR hG rfl (by assumption) (by assumption) ?_
    refine q_getR hG rfl (by assumption) (by assumption) ?_
    refine q_iload_n hG rfl rfl ?_
    refine q_ialdv (v := I (b + 5) x.toNat) hG rfl (by assumption) ⟨by omega, by omega, by omega⟩ rfl ?_
    refine q_aload_n hG rfl rfl ?_
    refine q_getR hG rfl (by assumption) (by assumption) ?_
    refine q_getR hG rfl (by assumption) (by assumption) ?_
    refine q_iload_n hG rfl rfl ?_
    refine q_ialdv (v := I (b + 2) x.toNat) hG rfl (by assumption) ⟨by omega, by omega, by omega⟩ rfl ?_
    refine q_icmp_lt hG rfl (hr.2.2.1) (hr.1) (fun hc29 => ?_) (fun hc29 => ?_)
    · refine q_iconst (v := 0) hG rfl rfl ?_
      refine q_iret5 hG rfl rfl (by decide) ?_
      exact p0 (by omega)
    · refine q_aload_n hG rfl rfl ?_
      refine q_getR hG rfl (by assumption) (by assumption) ?_
      refine q_getR hG rfl (by assumption) (by assumption) ?_
      refine q_iload_n hG rfl rfl ?_
      refine q_ialdv (v := I (b + 6) x.toNat) hG rfl (by assumption) ⟨by omega, by omega, by omega⟩ rfl ?_
      refine q_aload_n hG rfl rfl ?_
      refine q_getR hG rfl (by assumption) (by assumption) ?_
      refine q_getR hG rfl (by assumption) (by assumption) ?_
      refine q_iload_n hG rfl rfl ?_
      refine q_ialdv (v := I (b + 3) x.toNat) hG rfl (by assumption) ⟨by omega, by omega, by omega⟩ rfl ?_
      refine q_icmp_gt hG rfl (hr.2.2.2) (hr.2.1) (fun hc50 => ?_) (fun hc50 => ?_)
      · refine q_iconst (v := 0) hG rfl rfl ?_
        refine q_iret5 hG rfl rfl (by decide) ?_
        exact p0 (by omega)
      · refine q_iconst (v := 1) hG rfl rfl ?_
        refine q_goto hG rfl ?_
        refine q_iret5 hG rfl rfl (by decide) ?_
        exact p1 (by omega) (by omega) (by omega)
theorem s_D_always {d : Nat} {B : HP} {I : IM} {Post : Out → HP → Prop} {b p : Nat} (hb : oD B b) (hp : p < 10) (hF : 0 ≤ I (b + 10) p ∧ I (b + 10) p < 6) (hS : 0 ≤ I (b + 11) p ∧ I (b + 11) p < 6) (hg : sB (I (b + 12) p)) (hK : I (b + 9) p = 60 ∨ I (b + 9) p = 61 ∨ I (b + 9) p = 35) (hr : ∀ k, k < 6 → sB (I (b + 5) k) ∧ sB (I (b + 6) k)) (p1 : alwP (I (b + 9) p) (I (b + 5) (I (b + 10) p).toNat) (I (b + 6) (I (b + 10) p).toNat) (I (b + 5) (I (b + 11) p).toNat) (I (b + 6) (I (b + 11) p).toNat) (I (b + 12) p) → Post (.inl (some (.int (i3 1)))) (wI B I)) (p0 : ¬ alwP (I (b + 9) p) (I (b + 5) (I (b + 10) p).toNat) (I (b + 6) (I (b + 10) p).toNat) (I (b + 5) (I (b + 11) p).toNat) (I (b + 6) (I (b + 11) p).toNat) (I (b + 12) p) → Post (.inl (some (.int (i3 0)))) (wI B I)) : Sp (d + 1) k_X2_isAlwaysMet [.ref b, .int (i3 ((p : Int)))] (wI B I) Post := by
  refine Sp_intro md_X2_isAlwaysMet rfl rfl (fun G hG => ?_)
  obtain ⟨r1, r2⟩ := hr (I (b + 10) p).toNat (by omega)
  obtain ⟨r3, r4⟩ := hr (I (b + 11) p).toNat (by omega)
  unfold sB at hg r1 r2 r3 r4
  have hb0 := hb
  obtain ⟨k1, k2, k3, k4, hFo, hB, hC⟩ := hb
  obtain ⟨f1, f2, f3, f4, f5⟩ := hFo
  obtain ⟨g1, g2, g3, g4, g5⟩ := hB
  obtain ⟨c1, c2, c3, c4, c5, c6, c7, c8, c9, c10, c11⟩ := hC
  show G 0 [some (.ref b), some (.int (i3 ((p : Int)))), none, none, none, none, none] [] (wI B I)
  refine q_aload_n hG rfl rfl ?_
  refine q_getR hG rfl (by assumption) (by assumption) ?_
  refine q_getR hG rfl (by assumption) (by assumption) ?_
  refine q_iload_n hG rfl rfl ?_
  refine q_ialdv (v := I (b + 10) p) hG rfl (by assumption) ⟨by omega, by omega, by omega⟩ (by rfl) ?_
  refine q_istore_n hG rfl rfl ?_
  refine q_aload_n hG rfl rfl ?_
  refine q_getR hG rfl (by assumption) (by assumption) ?_
  refine q_getR hG rfl (by assumption) (by assumption) ?_
  refine q_iload_n hG rfl rfl ?_
  refine q_ialdv (v := I (b + 11) p) hG rfl (by assumption) ⟨by omega, by omega, by omega⟩ (by rfl) ?_
  refine q_istore_n hG rfl rfl ?_
  refine q_aload_n hG rfl rfl ?_
  refine q_getR hG rfl (by assumption) (by assumption) ?_
  refine q_getR hG rfl (by assumption) (by assumption) ?_
  refine q_iload_n hG rfl rfl ?_
  refine q_ialdv (v := I (b + 12) p) hG rfl (by assumption) ⟨by omega, by omega, by omega⟩ (by rfl) ?_
  refine q_istore hG rfl rfl ?_
  refine q_aload_n hG rfl rfl ?_
  refine q_getR hG rfl (by assumption) (by assumption) ?_
  refine q_getR hG rfl (by assumption) (by assumption) ?_
  refine q_iload_n hG rfl rfl ?_
  refine q_ialdv (v := I (b + 6) (I (b + 10) p).toNat) hG rfl (by assumption) ⟨by omega, by omega, by omega⟩ (by rfl) ?_
  refine q_iload hG rfl rfl ?_
  refine q_iadd hG rfl ?_
  refine q_aload_n hG rfl rfl ?_
  refine q_getR hG rfl (by assumption) (by assumption) ?_
  refine q_getR hG rfl (by assumption) (by assumption) ?_
  refine q_iload_n hG rfl rfl ?_
  refine q_ialdv (v := I (b + 5) (I (b + 11) p).toNat) hG rfl (by assumption) ⟨by omega, by omega, by omega⟩ (by rfl) ?_
  refine q_icmp_gt hG rfl ⟨by omega, by omega⟩ ⟨by omega, by omega⟩ (fun hc52 => ?_) (fun hc52 => ?_)
  · refine q_iconst (v := 0) hG rfl rfl ?_
    refine q_istore hG rfl rfl ?_
    refine q_aload_n hG rfl rfl ?_
    refine q_getR hG rfl (by assumption) (by assumption) ?_
    refine q_getR hG rfl (by assumption) (by assumption) ?_
    refine q_iload_n hG rfl rfl ?_
    refine q_ialdv (v := I (b + 6) (I (b + 11) p).toNat) hG rfl (by assumption) ⟨by omega, by omega, by omega⟩ (by rfl) ?_
    refine q_iload hG rfl rfl ?_
    refine q_iadd hG rfl ?_
    refine q_aload_n hG rfl rfl ?_
    refine q_getR hG rfl (by assumption) (by assumption) ?_
    refine q_getR hG rfl (by assumption) (by assumption) ?_
    refine q_iload_n hG rfl rfl ?_
    refine q_ialdv (v := I (b + 5) (I (b + 10) p).toNat) hG rfl (by assumption) ⟨by omega, by omega, by omega⟩ (by rfl) ?_
    refine q_icmp_gt hG rfl ⟨by omega, by omega⟩ ⟨by omega, by omega⟩ (fun hc83 => ?_) (fun hc83 => ?_)
    · refine q_iconst (v := 0) hG rfl rfl ?_
      refine q_istore hG rfl rfl ?_
      refine q_aload_n hG rfl rfl ?_
      refine q_getR hG rfl (by assumption) (by assumption) ?_
      refine q_getR hG rfl (by assumption) (by assumption) ?_
      refine q_iload_n hG rfl rfl ?_
      refine q_caldv (v := I (b + 9) p) hG rfl (by assumption) ⟨by omega, by omega, by omega⟩ (by rfl) ?_
      refine q_lsw hG rfl ⟨by omega, by omega⟩ rfl ?_
      refine ⟨fun hs102 => ?_, fun hs102_60 => ?_⟩
      · refine q_iload hG rfl rfl ?_
        refine q_iret5 hG rfl rfl (by decide) ?_
        exact p0 (by unfold alwP; (repeat' split) <;> omega)
      refine ⟨fun hs102 => ?_, fun hs102_61 => ?_⟩
      · refine q_iload hG rfl rfl ?_
        refine q_if_eq hG rfl ⟨by omega, by omega⟩ (fun _ => ?_) (fun q => absurd (by decide) q)
        refine q_iconst (v := 0) hG rfl rfl ?_
        refine q_iret5 hG rfl rfl (by decide) ?_
        exact p0 (by unfold alwP; (repeat' split) <;> omega)
      refine q_iload hG rfl rfl ?_
      refine q_if_ne hG rfl ⟨by omega, by omega⟩ (fun q => absurd q (by decide)) (fun _ => ?_)
      refine q_iload hG rfl rfl ?_
      refine q_if_eq hG rfl ⟨by omega, by omega⟩ (fun _ => ?_) (fun q => absurd (by decide) q)
      refine q_iconst (v := 0) hG rfl rfl ?_
      refine q_iret5 hG rfl rfl (by decide) ?_
      exact p0 (by unfold alwP; (repeat' split) <;> omega)
    · refine q_iconst (v := 1) hG rfl rfl ?_
      refine q_goto hG rfl ?_
      refine q_istore hG rfl rfl ?_
      refine q_aload_n hG rfl rfl ?_
      refine q_getR hG rfl (by assumption) (by assumption) ?_
      refine q_getR hG rfl (by assumption) (by assumption) ?_
      refine q_iload_n hG rfl rfl ?_
      refine q_caldv (v := I (b + 9) p) hG rfl (by assumption) ⟨by omega, by omega, by omega⟩ (by rfl) ?_
      refine q_lsw hG rfl ⟨by omega, by omega⟩ rfl ?_
      refine ⟨fun hs102 => ?_, fun hs102_60 => ?_⟩
      · refine q_iload hG rfl rfl ?_
        refine q_iret5 hG rfl rfl (by decide) ?_
        exact p0 (by unfold alwP; (repeat' split) <;> omega)
      refine ⟨fun hs102 => ?_, fun hs102_61 => ?_⟩
      · refine q_iload hG rfl rfl ?_
        refine q_if_eq hG rfl ⟨by omega, by omega⟩ (fun _ => ?_) (fun q => absurd (by decide) q)
        refine q_iconst (v := 0) hG rfl rfl ?_
        refine q_iret5 hG rfl rfl (by decide) ?_
        exact p0 (by unfold alwP; (repeat' split) <;> omega)
      refine q_iload hG rfl rfl ?_
      refine q_if_ne hG rfl ⟨by omega, by omega⟩ (fun q => absurd q (by decide)) (fun _ => ?_)
      refine q_iload hG rfl rfl ?_
      refine q_if_eq hG rfl ⟨by omega, by omega⟩ (fun q => absurd q (by decide)) (fun _ => ?_)
      refine q_iconst (v := 1) hG rfl rfl ?_
      refine q_goto hG rfl ?_
      refine q_iret5 hG rfl rfl (by decide) ?_
      exact p1 (by unfold alwP; (repeat' split) <;> omega)
  · refine q_iconst (v := 1) hG rfl rfl ?_
    refine q_goto hG rfl ?_
    refine q_istore hG rfl rfl ?_
    refine q_aload_n hG rfl rfl ?_
    refine q_getR hG rfl (by assumption) (by assumption) ?_
    refine q_getR hG rfl (by assumption) (by assumption) ?_
    refine q_iload_n hG rfl rfl ?_
    refine q_ialdv (v := I (b + 6) (I (b + 11) p).toNat) hG rfl (by assumption) ⟨by omega, by omega, by omega⟩ (by rfl) ?_
    refine q_iload hG rfl rfl ?_
    refine q_iadd hG rfl ?_
    refine q_aload_n hG rfl rfl ?_
    refine q_getR hG rfl (by assumption) (by assumption) ?_
    refine q_getR hG rfl (by assumption) (by assumption) ?_
    refine q_iload_n hG rfl rfl ?_
    refine q_ialdv (v := I (b + 5) (I (b + 10) p).toNat) hG rfl (by assumption) ⟨by omega, by omega, by omega⟩ (by rfl) ?_
    refine q_icmp_gt hG rfl ⟨by omega, by omega⟩ ⟨by omega, by omega⟩ (fun hc83 => ?_) (fun hc83 => ?_)
    · refine q_iconst (v := 0) hG rfl rfl ?_
      refine q_istore hG rfl rfl ?_
      refine q_aload_n hG rfl rfl ?_
      refine q_getR hG rfl (by assumption) (by assumption) ?_
      refine q_getR hG rfl (by assumption) (by assumption) ?_
      refine q_iload_n hG rfl rfl ?_
      refine q_caldv (v := I (b + 9) p) hG rfl (by assumption) ⟨by omega, by omega, by omega⟩ (by rfl) ?_
      refine q_lsw hG rfl ⟨by omega, by omega⟩ rfl ?_
      refine ⟨fun hs102 => ?_, fun hs102_60 => ?_⟩
      · refine q_iload hG rfl rfl ?_
        refine q_iret5 hG rfl rfl (by decide) ?_
        exact p1 (by unfold alwP; (repeat' split) <;> omega)
      refine ⟨fun hs102 => ?_, fun hs102_61 => ?_⟩
      · refine q_iload hG rfl rfl ?_
        refine q_if_eq hG rfl ⟨by omega, by omega⟩ (fun q => absurd q (by decide)) (fun _ => ?_)
        refine q_aload_n hG rfl rfl ?_
        refine q_getR hG rfl (by assumption) (by assumption) ?_
        refine q_getR hG rfl (by assumption) (by assumption) ?_
        refine q_iload_n hG rfl rfl ?_
        refine q_ialdv (v := I (b + 5) (I (b + 10) p).toNat) hG rfl (by assumption) ⟨by omega, by omega, by omega⟩ (by rfl) ?_
        refine q_iload hG rfl rfl ?_
        refine q_iadd hG rfl ?_
        refine q_aload_n hG rfl rfl ?_
        refine q_getR hG rfl (by assumption) (by assumption) ?_
        refine q_getR hG rfl (by assumption) (by assumption) ?_
        refine q_iload_n hG rfl rfl ?_
        refine q_ialdv (v := I (b + 6) (I (b + 11) p).toNat) hG rfl (by assumption) ⟨by omega, by omega, by omega⟩ (by rfl) ?_
        refine q_icmp_lt hG rfl ⟨by omega, by omega⟩ ⟨by omega, by omega⟩ (fun hc157 => ?_) (fun hc157 => ?_)
        · refine q_iconst (v := 0) hG rfl rfl ?_
          refine q_iret5 hG rfl rfl (by decide) ?_
          exact p0 (by unfold alwP; (repeat' split) <;> omega)
        · refine q_iconst (v := 1) hG rfl rfl ?_
          refine q_goto hG rfl ?_
          refine q_iret5 hG rfl rfl (by decide) ?_
          exact p1 (by unfold alwP; (repeat' split) <;> omega)
      refine q_iload hG rfl rfl ?_
      refine q_if_ne hG rfl ⟨by omega, by omega⟩ (fun _ => ?_) (fun q => absurd (by decide) q)
      refine q_iconst (v := 1) hG rfl rfl ?_
      refine q_goto hG rfl ?_
      refine q_iret5 hG rfl rfl (by decide) ?_
      exact p1 (by unfold alwP; (repeat' split) <;> omega)
    · refine q_iconst (v := 1) hG rfl rfl ?_
      refine q_goto hG rfl ?_
      refine q_istore hG rfl rfl ?_
      refine q_aload_n hG rfl rfl ?_
      refine q_getR hG rfl (by assumption) (by assumption) ?_
      refine q_getR hG rfl (by assumption) (by assumption) ?_
      refine q_iload_n hG rfl rfl ?_
      refine q_caldv (v := I (b + 9) p) hG rfl (by assumption) ⟨by omega, by omega, by omega⟩ (by rfl) ?_
      refine q_lsw hG rfl ⟨by omega, by omega⟩ rfl ?_
      refine ⟨fun hs102 => ?_, fun hs102_60 => ?_⟩
      · refine q_iload hG rfl rfl ?_
        refine q_iret5 hG rfl rfl (by decide) ?_
        exact p1 (by unfold alwP; (repeat' split) <;> omega)
      refine ⟨fun hs102 => ?_, fun hs102_61 => ?_⟩
      · refine q_iload hG rfl rfl ?_
        refine q_if_eq hG rfl ⟨by omega, by omega⟩ (fun q => absurd q (by decide)) (fun _ => ?_)
        refine q_aload_n hG rfl rfl ?_
        refine q_getR hG rfl (by assumption) (by assumption) ?_
        refine q_getR hG rfl (by assumption) (by assumption) ?_
        refine q_iload_n hG rfl rfl ?_
        refine q_ialdv (v := I (b + 5) (I (b + 10) p).toNat) hG rfl (by assumption) ⟨by omega, by omega, by omega⟩ (by rfl) ?_
        refine q_iload hG rfl rfl ?_
        refine q_iadd hG rfl ?_
        refine q_aload_n hG rfl rfl ?_
        refine q_getR hG rfl (by assumption) (by assumption) ?_
        refine q_getR hG rfl (by assumption) (by assumption) ?_
        refine q_iload_n hG rfl rfl ?_
        refine q_ialdv (v := I (b + 6) (I (b + 11) p).toNat) hG rfl (by assumption) ⟨by omega, by omega, by omega⟩ (by rfl) ?_
        refine q_icmp_lt hG rfl ⟨by omega, by omega⟩ ⟨by omega, by omega⟩ (fun hc157 => ?_) (fun hc157 => ?_)
        · refine q_iconst (v := 0) hG rfl rfl ?_
          refine q_iret5 hG rfl rfl (by decide) ?_
          exact p0 (by unfold alwP; (repeat' split) <;> omega)
        · refine q_iconst (v := 1) hG rfl rfl ?_
          refine q_goto hG rfl ?_
          refine q_iret5 hG rfl rfl (by decide) ?_
          exact p1 (by unfold alwP; (repeat' split) <;> omega)
      refine q_iload hG rfl rfl ?_
      refine q_if_ne hG rfl ⟨by omega, by omega⟩ (fun _ => ?_) (fun q => absurd (by decide) q)
      refine q_iconst (v := 1) hG rfl rfl ?_
      refine q_goto hG rfl ?_
      refine q_iret5 hG rfl rfl (by decide) ?_
      exact p1 (by unfold alwP; (repeat' split) <;> omega)
theorem s_D_never {d : Nat} {B : HP} {I : IM} {Post : Out → HP → Prop} {b p : Nat} (hb : oD B b) (hp : p < 10) (hF : 0 ≤ I (b + 10) p ∧ I (b + 10) p < 6) (hS : 0 ≤ I (b + 11) p ∧ I (b + 11) p < 6) (hg : sB (I (b + 12) p)) (hK : I (b + 9) p = 60 ∨ I (b + 9) p = 61 ∨ I (b + 9) p = 35) (hr : ∀ k, k < 6 → sB (I (b + 5) k) ∧ sB (I (b + 6) k)) (p1 : nevP (I (b + 9) p) (I (b + 5) (I (b + 10) p).toNat) (I (b + 6) (I (b + 10) p).toNat) (I (b + 5) (I (b + 11) p).toNat) (I (b + 6) (I (b + 11) p).toNat) (I (b + 12) p) → Post (.inl (some (.int (i3 1)))) (wI B I)) (p0 : ¬ nevP (I (b + 9) p) (I (b + 5) (I (b + 10) p).toNat) (I (b + 6) (I (b + 10) p).toNat) (I (b + 5) (I (b + 11) p).toNat) (I (b + 6) (I (b + 11) p).toNat) (I (b + 12) p) → Post (.inl (some (.int (i3 0)))) (wI B I)) : Sp (d + 1) k_X2_isNeverMet [.ref b, .int (i3 ((p : Int)))] (wI B I) Post := by
  refine Sp_intro md_X2_isNeverMet rfl rfl (fun G hG => ?_)
  obtain ⟨r1, r2⟩ := hr (I (b + 10) p).toNat (by omega)
  obtain ⟨r3, r4⟩ := hr (I (b + 11) p).toNat (by omega)
  unfold sB at hg r1 r2 r3 r4
  have hb0 := hb
  obtain ⟨k1, k2, k3, k4, hFo, hB, hC⟩ := hb
  obtain ⟨f1, f2, f3, f4, f5⟩ := hFo
  obtain ⟨g1, g2, g3, g4, g5⟩ := hB
  obtain ⟨c1, c2, c3, c4, c5, c6, c7, c8, c9, c10, c11⟩ := hC
  show G 0 [some (.ref b), some (.int (i3 ((p : Int)))), none, none, none, none, none] [] (wI B I)
  refine q_aload_n hG rfl rfl ?_
  refine q_getR hG rfl (by assumption) (by assumption) ?_
  refine q_getR hG rfl (by assumption) (by assumption) ?_
  refine q_iload_n hG rfl rfl ?_
  refine q_ialdv (v := I (b + 10) p) hG rfl (by assumption) ⟨by omega, by omega, by omega⟩ (by rfl) ?_
  refine q_istore_n hG rfl rfl ?_
  refine q_aload_n hG rfl rfl ?_
  refine q_getR hG rfl (by assumption) (by assumption) ?_
  refine q_getR hG rfl (by assumption) (by assumption) ?_
  refine q_iload_n hG rfl rfl ?_
  refine q_ialdv (v := I (b + 11) p) hG rfl (by assumption) ⟨by omega, by omega, by omega⟩ (by rfl) ?_
  refine q_istore_n hG rfl rfl ?_
  refine q_aload_n hG rfl rfl ?_
  refine q_getR hG rfl (by assumption) (by assumption) ?_
  refine q_getR hG rfl (by assumption) (by assumption) ?_
  refine q_iload_n hG rfl rfl ?_
  refine q_ialdv (v := I (b + 12) p) hG rfl (by assumption) ⟨by omega, by omega, by omega⟩ (by rfl) ?_
  refine q_istore hG rfl rfl ?_
  refine q_aload_n hG rfl rfl ?_
  refine q_getR hG rfl (by assumption) (by assumption) ?_
  refine q_getR hG rfl (by assumption) (by assumption) ?_
  refine q_iload_n hG rfl rfl ?_
  refine q_ialdv (v := I (b + 5) (I (b + 10) p).toNat) hG rfl (by assumption) ⟨by omega, by omega, by omega⟩ (by rfl) ?_
  refine q_iload hG rfl rfl ?_
  refine q_iadd hG rfl ?_
  refine q_aload_n hG rfl rfl ?_
  refine q_getR hG rfl (by assumption) (by assumption) ?_
  refine q_getR hG rfl (by assumption) (by assumption) ?_
  refine q_iload_n hG rfl rfl ?_
  refine q_ialdv (v := I (b + 6) (I (b + 11) p).toNat) hG rfl (by assumption) ⟨by omega, by omega, by omega⟩ (by rfl) ?_
  refine q_icmp_le hG rfl ⟨by omega, by omega⟩ ⟨by omega, by omega⟩ (fun hc52 => ?_) (fun hc52 => ?_)
  · refine q_iconst (v := 0) hG rfl rfl ?_
    refine q_istore hG rfl rfl ?_
    refine q_aload_n hG rfl rfl ?_
    refine q_getR hG rfl (by assumption) (by assumption) ?_
    refine q_getR hG rfl (by assumption) (by assumption) ?_
    refine q_iload_n hG rfl rfl ?_
    refine q_ialdv (v := I (b + 5) (I (b + 11) p).toNat) hG rfl (by assumption) ⟨by omega, by omega, by omega⟩ (by rfl) ?_
    refine q_iload hG rfl rfl ?_
    refine q_iadd hG rfl ?_
    refine q_aload_n hG rfl rfl ?_
    refine q_getR hG rfl (by assumption) (by assumption) ?_
    refine q_getR hG rfl (by assumption) (by assumption) ?_
    refine q_iload_n hG rfl rfl ?_
    refine q_ialdv (v := I (b + 6) (I (b + 10) p).toNat) hG rfl (by assumption) ⟨by omega, by omega, by omega⟩ (by rfl) ?_
    refine q_icmp_le hG rfl ⟨by omega, by omega⟩ ⟨by omega, by omega⟩ (fun hc83 => ?_) (fun hc83 => ?_)
    · refine q_iconst (v := 0) hG rfl rfl ?_
      refine q_istore hG rfl rfl ?_
      refine q_aload_n hG rfl rfl ?_
      refine q_getR hG rfl (by assumption) (by assumption) ?_
      refine q_getR hG rfl (by assumption) (by assumption) ?_
      refine q_iload_n hG rfl rfl ?_
      refine q_caldv (v := I (b + 9) p) hG rfl (by assumption) ⟨by omega, by omega, by omega⟩ (by rfl) ?_
      refine q_lsw hG rfl ⟨by omega, by omega⟩ rfl ?_
      refine ⟨fun hs102 => ?_, fun hs102_60 => ?_⟩
      · refine q_iload hG rfl rfl ?_
        refine q_iret5 hG rfl rfl (by decide) ?_
        exact p0 (by unfold nevP; (repeat' split) <;> omega)
      refine ⟨fun hs102 => ?_, fun hs102_61 => ?_⟩
      · refine q_iload hG rfl rfl ?_
        refine q_if_ne hG rfl ⟨by omega, by omega⟩ (fun q => absurd q (by decide)) (fun _ => ?_)
        refine q_aload_n hG rfl rfl ?_
        refine q_getR hG rfl (by assumption) (by assumption) ?_
        refine q_getR hG rfl (by assumption) (by assumption) ?_
        refine q_iload_n hG rfl rfl ?_
        refine q_ialdv (v := I (b + 6) (I (b + 10) p).toNat) hG rfl (by assumption) ⟨by omega, by omega, by omega⟩ (by rfl) ?_
        refine q_iload hG rfl rfl ?_
        refine q_iadd hG rfl ?_
        refine q_aload_n hG rfl rfl ?_
        refine q_getR hG rfl (by assumption) (by assumption) ?_
        refine q_getR hG rfl (by assumption) (by assumption) ?_
        refine q_iload_n hG rfl rfl ?_
        refine q_ialdv (v := I (b + 5) (I (b + 11) p).toNat) hG rfl (by assumption) ⟨by omega, by omega, by omega⟩ (by rfl) ?_
        refine q_icmp_ge hG rfl ⟨by omega, by omega⟩ ⟨by omega, by omega⟩ (fun hc157 => ?_) (fun hc157 => ?_)
        · refine q_iconst (v := 0) hG rfl rfl ?_
          refine q_iret5 hG rfl rfl (by decide) ?_
          exact p0 (by unfold nevP; (repeat' split) <;> omega)
        · refine q_iconst (v := 1) hG rfl rfl ?_
          refine q_goto hG rfl ?_
          refine q_iret5 hG rfl rfl (by decide) ?_
          exact p1 (by unfold nevP; (repeat' split) <;> omega)
      refine q_iload hG rfl rfl ?_
      refine q_if_eq hG rfl ⟨by omega, by omega⟩ (fun _ => ?_) (fun q => absurd (by decide) q)
      refine q_iconst (v := 0) hG rfl rfl ?_
      refine q_iret5 hG rfl rfl (by decide) ?_
      exact p0 (by unfold nevP; (repeat' split) <;> omega)
    · refine q_iconst (v := 1) hG rfl rfl ?_
      refine q_goto hG rfl ?_
      refine q_istore hG rfl rfl ?_
      refine q_aload_n hG rfl rfl ?_
      refine q_getR hG rfl (by assumption) (by assumption) ?_
      refine q_getR hG rfl (by assumption) (by assumption) ?_
      refine q_iload_n hG rfl rfl ?_
      refine q_caldv (v := I (b + 9) p) hG rfl (by assumption) ⟨by omega, by omega, by omega⟩ (by rfl) ?_
      refine q_lsw hG rfl ⟨by omega, by omega⟩ rfl ?_
      refine ⟨fun hs102 => ?_, fun hs102_60 => ?_⟩
      · refine q_iload hG rfl rfl ?_
        refine q_iret5 hG rfl rfl (by decide) ?_
        exact p0 (by unfold nevP; (repeat' split) <;> omega)
      refine ⟨fun hs102 => ?_, fun hs102_61 => ?_⟩
      · refine q_iload hG rfl rfl ?_
        refine q_if_ne hG rfl ⟨by omega, by omega⟩ (fun q => absurd q (by decide)) (fun _ => ?_)
        refine q_aload_n hG rfl rfl ?_
        refine q_getR hG rfl (by assumption) (by assumption) ?_
        refine q_getR hG rfl (by assumption) (by assumption) ?_
        refine q_iload_n hG rfl rfl ?_
        refine q_ialdv (v := I (b + 6) (I (b + 10) p).toNat) hG rfl (by assumption) ⟨by omega, by omega, by omega⟩ (by rfl) ?_
        refine q_iload hG rfl rfl ?_
        refine q_iadd hG rfl ?_
        refine q_aload_n hG rfl rfl ?_
        refine q_getR hG rfl (by assumption) (by assumption) ?_
        refine q_getR hG rfl (by assumption) (by assumption) ?_
        refine q_iload_n hG rfl rfl ?_
        refine q_ialdv (v := I (b + 5) (I (b + 11) p).toNat) hG rfl (by assumption) ⟨by omega, by omega, by omega⟩ (by rfl) ?_
        refine q_icmp_ge hG rfl ⟨by omega, by omega⟩ ⟨by omega, by omega⟩ (fun hc157 => ?_) (fun hc157 => ?_)
        · refine q_iconst (v := 0) hG rfl rfl ?_
          refine q_iret5 hG rfl rfl (by decide) ?_
          exact p0 (by unfold nevP; (repeat' split) <;> omega)
        · refine q_iconst (v := 1) hG rfl rfl ?_
          refine q_goto hG rfl ?_
          refine q_iret5 hG rfl rfl (by decide) ?_
          exact p1 (by unfold nevP; (repeat' split) <;> omega)
      refine q_iload hG rfl rfl ?_
      refine q_if_eq hG rfl ⟨by omega, by omega⟩ (fun _ => ?_) (fun q => absurd (by decide) q)
      refine q_iconst (v := 0) hG rfl rfl ?_
      refine q_iret5 hG rfl rfl (by decide) ?_
      exact p0 (by unfold nevP; (repeat' split) <;> omega)
  · refine q_iconst (v := 1) hG rfl rfl ?_
    refine q_goto hG rfl ?_
    refine q_istore hG rfl rfl ?_
    refine q_aload_n hG rfl rfl ?_
    refine q_getR hG rfl (by assumption) (by assumption) ?_
    refine q_getR hG rfl (by assumption) (by assumption) ?_
    refine q_iload_n hG rfl rfl ?_
    refine q_ialdv (v := I (b + 5) (I (b + 11) p).toNat) hG rfl (by assumption) ⟨by omega, by omega, by omega⟩ (by rfl) ?_
    refine q_iload hG rfl rfl ?_
    refine q_iadd hG rfl ?_
    refine q_aload_n hG rfl rfl ?_
    refine q_getR hG rfl (by assumption) (by assumption) ?_
    refine q_getR hG rfl (by assumption) (by assumption) ?_
    refine q_iload_n hG rfl rfl ?_
    refine q_ialdv (v := I (b + 6) (I (b + 10) p).toNat) hG rfl (by assumption) ⟨by omega, by omega, by omega⟩ (by rfl) ?_
    refine q_icmp_le hG rfl ⟨by omega, by omega⟩ ⟨by omega, by omega⟩ (fun hc83 => ?_) (fun hc83 => ?_)
    · refine q_iconst (v := 0) hG rfl rfl ?_
      refine q_istore hG rfl rfl ?_
      refine q_aload_n hG rfl rfl ?_
      refine q_getR hG rfl (by assumption) (by assumption) ?_
      refine q_getR hG rfl (by assumption) (by assumption) ?_
      refine q_iload_n hG rfl rfl ?_
      refine q_caldv (v := I (b + 9) p) hG rfl (by assumption) ⟨by omega, by omega, by omega⟩ (by rfl) ?_
      refine q_lsw hG rfl ⟨by omega, by omega⟩ rfl ?_
      refine ⟨fun hs102 => ?_, fun hs102_60 => ?_⟩
      · refine q_iload hG rfl rfl ?_
        refine q_iret5 hG rfl rfl (by decide) ?_
        exact p1 (by unfold nevP; (repeat' split) <;> omega)
      refine ⟨fun hs102 => ?_, fun hs102_61 => ?_⟩
      · refine q_iload hG rfl rfl ?_
        refine q_if_ne hG rfl ⟨by omega, by omega⟩ (fun _ => ?_) (fun q => absurd (by decide) q)
        refine q_iconst (v := 1) hG rfl rfl ?_
        refine q_goto hG rfl ?_
        refine q_iret5 hG rfl rfl (by decide) ?_
        exact p1 (by unfold nevP; (repeat' split) <;> omega)
      refine q_iload hG rfl rfl ?_
      refine q_if_eq hG rfl ⟨by omega, by omega⟩ (fun q => absurd q (by decide)) (fun _ => ?_)
      refine q_iload hG rfl rfl ?_
      refine q_if_eq hG rfl ⟨by omega, by omega⟩ (fun _ => ?_) (fun q => absurd (by decide) q)
      refine q_iconst (v := 0) hG rfl rfl ?_
      refine q_iret5 hG rfl rfl (by decide) ?_
      exact p0 (by unfold nevP; (repeat' split) <;> omega)
    · refine q_iconst (v := 1) hG rfl rfl ?_
      refine q_goto hG rfl ?_
      refine q_istore hG rfl rfl ?_
      refine q_aload_n hG rfl rfl ?_
      refine q_getR hG rfl (by assumption) (by assumption) ?_
      refine q_getR hG rfl (by assumption) (by assumption) ?_
      refine q_iload_n hG rfl rfl ?_
      refine q_caldv (v := I (b + 9) p) hG rfl (by assumption) ⟨by omega, by omega, by omega⟩ (by rfl) ?_
      refine q_lsw hG rfl ⟨by omega, by omega⟩ rfl ?_
      refine ⟨fun hs102 => ?_, fun hs102_60 => ?_⟩
      · refine q_iload hG rfl rfl ?_
        refine q_iret5 hG rfl rfl (by decide) ?_
        exact p1 (by unfold nevP; (repeat' split) <;> omega)
      refine ⟨fun hs102 => ?_, fun hs102_61 => ?_⟩
      · refine q_iload hG rfl rfl ?_
        refine q_if_ne hG rfl ⟨by omega, by omega⟩ (fun _ => ?_) (fun q => absurd (by decide) q)
        refine q_iconst (v := 1) hG rfl rfl ?_
        refine q_goto hG rfl ?_
        refine q_iret5 hG rfl rfl (by decide) ?_
        exact p1 (by unfold nevP; (repeat' split) <;> omega)
      refine q_iload hG rfl rfl ?_
      refine q_if_eq hG rfl ⟨by omega, by omega⟩ (fun q => absurd q (by decide)) (fun _ => ?_)
      refine q_iload hG rfl rfl ?_
      refine q_if_eq hG rfl ⟨by omega, by omega⟩ (fun q => absurd q (by decide)) (fun _ => ?_)
      refine q_iconst (v := 1) hG rfl rfl ?_
      refine q_goto hG rfl ?_
      refine q_iret5 hG rfl rfl (by decide) ?_
      exact p1 (by unfold nevP; (repeat' split) <;> omega)
theorem s_D_ahead {d : Nat} {B : HP} {I : IM} {Post : Out → HP → Prop} {b o x : Nat} (hb : oD B b) (ho : o < 6) (hx : x < 6) (hn : 0 ≤ I b 0 ∧ I b 0 ≤ 6) (hm : 0 ≤ I (b + 7) 0 ∧ I (b + 7) 0 ≤ 10) (hr : ∀ k, k < 6 → sB (I (b + 5) k) ∧ sB (I (b + 6) k)) (hf : ∀ k : Nat, (k : Int) < I (b + 7) 0 → r32 (I (b + 10) k) ∧ r32 (I (b + 11) k)) (p1 : ahP I b o x → Post (.inl (some (.int (i3 1)))) (wI B I)) (p0 : ¬ ahP I b o x → Post (.inl (some (.int (i3 0)))) (wI B I)) : Sp (d + 2) k_X2_isAhead [.ref b, .int (i3 ((o : Int))), .int (i3 ((x : Int)))] (wI B I) Post := by
  refine Sp_intro md_X2_isAhead rfl rfl (fun G hG => ?_)
  have b1 := ctI_bd I b o hm
  have b2 := ctI_bd I b x hm
  obtain ⟨r1, r2⟩ := hr o ho
  obtain ⟨r3, r4⟩ := hr x hx
  unfold sB at r1 r2 r3 r4
  have hb0 := hb
  obtain ⟨k1, k2, k3, k4, hF, hB, hC⟩ := hb
  have kF := hF.1
  have kB := hB.1
  have kC := hC.1
  have e1 : wdI I b o = I (b + 6) o - I (b + 5) o + 1 := rfl
  have e2 : wdI I b x = I (b + 6) x - I (b + 5) x + 1 := rfl
  show G 0 [some (.ref b), some (.int (i3 ((o : Int)))), some (.int (i3 ((x : Int)))), none, none] [] (wI B I)
  refine q_aload_n hG rfl rfl ?_
  refine q_getR hG rfl (by assumption) (by assumption) ?_
  refine q_iload_n hG rfl rfl ?_
  refine q_callV6 hG rfl rfl rfl (by assumption) (s_B_width hb0.2.2.2.2.2.1 ⟨by omega, by omega⟩ ?_)
  show G 8 _ (.int (i3 (wdI I b o)) :: _) _
  refine q_aload_n hG rfl rfl ?_
  refine q_getR hG rfl (by assumption) (by assumption) ?_
  refine q_iload_n hG rfl rfl ?_
  refine q_callV6 hG rfl rfl rfl (by assumption) (s_B_width hb0.2.2.2.2.2.1 ⟨by omega, by omega⟩ ?_)
  show G 16 _ (.int (i3 (wdI I b x)) :: _) _
  refine q_isub hG rfl ?_
  refine q_istore_n hG rfl rfl ?_
  refine q_iload_n hG rfl rfl ?_
  refine q_if_eq hG rfl ⟨by omega, by omega⟩ (fun hc19 => ?_) (fun hc19 => ?_)
  · refine q_aload_n hG rfl rfl ?_
    refine q_getR hG rfl (by assumption) (by assumption) ?_
    refine q_iload_n hG rfl rfl ?_
    refine q_callV6 hG rfl rfl rfl (by assumption) (s_C_with hb0.2.2.2.2.2.2 hm ⟨by omega, by omega⟩ hf ?_)
    show G 40 _ (.int (i3 (ctI I b o)) :: _) _
    refine q_aload_n hG rfl rfl ?_
    refine q_getR hG rfl (by assumption) (by assumption) ?_
    refine q_iload_n hG rfl rfl ?_
    refine q_callV6 hG rfl rfl rfl (by assumption) (s_C_with hb0.2.2.2.2.2.2 hm ⟨by omega, by omega⟩ hf ?_)
    show G 48 _ (.int (i3 (ctI I b x)) :: _) _
    refine q_isub hG rfl ?_
    refine q_istore hG rfl rfl ?_
    refine q_iload hG rfl rfl ?_
    refine q_if_gt hG rfl ⟨by omega, by omega⟩ (fun hc53 => ?_) (fun hc53 => ?_)
    · refine q_iconst (v := 1) hG rfl rfl ?_
      refine q_goto hG rfl ?_
      refine q_iret5 hG rfl rfl (by decide) ?_
      exact p1 (by unfold ahP; omega)
    · refine q_iload hG rfl rfl ?_
      refine q_if_ne hG rfl ⟨by omega, by omega⟩ (fun hc58 => ?_) (fun hc58 => ?_)
      · refine q_iconst (v := 0) hG rfl rfl ?_
        refine q_iret5 hG rfl rfl (by decide) ?_
        exact p0 (by unfold ahP; omega)
      · refine q_iload_n hG rfl rfl ?_
        refine q_iload_n hG rfl rfl ?_
        refine q_icmp_ge hG rfl ⟨by omega, by omega⟩ ⟨by omega, by omega⟩ (fun hc63 => ?_) (fun hc63 => ?_)
        · refine q_iconst (v := 0) hG rfl rfl ?_
          refine q_iret5 hG rfl rfl (by decide) ?_
          exact p0 (by unfold ahP; omega)
        · refine q_iconst (v := 1) hG rfl rfl ?_
          refine q_goto hG rfl ?_
          refine q_iret5 hG rfl rfl (by decide) ?_
          exact p1 (by unfold ahP; omega)
  · refine q_iload_n hG rfl rfl ?_
    refine q_if_ge hG rfl ⟨by omega, by omega⟩ (fun hc23 => ?_) (fun hc23 => ?_)
    · refine q_iconst (v := 0) hG rfl rfl ?_
      refine q_iret5 hG rfl rfl (by decide) ?_
      exact p0 (by unfold ahP; omega)
    · refine q_iconst (v := 1) hG rfl rfl ?_
      refine q_goto hG rfl ?_
      refine q_iret5 hG rfl rfl (by decide) ?_
      exact p1 (by unfold ahP; omega)
theorem s_D_rank {d : Nat} {B : HP} {I : IM} {Post : Out → HP → Prop} {b x : Nat} (hb : oD B b) (hx : x < 6) (hn : 0 ≤ I b 0 ∧ I b 0 ≤ 6) (hm : 0 ≤ I (b + 7) 0 ∧ I (b + 7) 0 ≤ 10) (hr : ∀ k, k < 6 → sB (I (b + 5) k) ∧ sB (I (b + 6) k)) (hf : ∀ k : Nat, (k : Int) < I (b + 7) 0 → r32 (I (b + 10) k) ∧ r32 (I (b + 11) k)) (hp : Post (.inl (some (.int (i3 (sm (fun o => if ahP I b o x then 1 else 0) (I b 0).toNat))))) (wI B I)) : Sp (d + 3) k_X2_rankOf [.ref b, .int (i3 ((x : Int)))] (wI B I) Post := by
  refine Sp_intro md_X2_rankOf rfl rfl (fun G hG => ?_)
  have hb0 := hb
  obtain ⟨k1, k2, k3, k4, hF, hB, hC⟩ := hb
  have kF := hF.1
  have kB := hB.1
  have kC := hC.1
  have lp : ∀ (m : Nat) (k : Nat), (I b 0).toNat - k = m → k ≤ (I b 0).toNat → G 4 [some (.ref b), some (.int (i3 (x : Int))), some (.int (i3 (sm (fun o => if ahP I b o x then 1 else 0) k))), some (.int (i3 (k : Int)))] [] (wI B I) := by
    intro m
    induction m using Nat.strongRecOn with
    | ind m ih =>
      intro k hme hk
      refine q_iload_n hG rfl rfl ?_
      refine q_aload_n hG rfl rfl ?_
      refine q_getI0 hG rfl (by assumption) ?_
      refine q_icmp_ge hG rfl ⟨by omega, by omega⟩ ⟨by omega, by omega⟩ (fun hc9 => ?_) (fun hc9 => ?_)
      · refine q_iload_n hG rfl rfl ?_
        refine q_iret0 hG rfl rfl ?_
        rw [show (I b 0).toNat = k by omega] at hp
        exact hp
      · refine q_aload_n hG rfl rfl ?_
        refine q_iload_n hG rfl rfl ?_
        refine q_iload_n hG rfl rfl ?_
        refine q_callV6 hG rfl rfl rfl (by assumption) (s_D_ahead hb0 (by omega) hx hn hm hr hf (fun ha => ?_) (fun ha => ?_))
        · refine q_if_eq hG rfl ⟨by omega, by omega⟩ (fun q => absurd q (by decide)) (fun _ => ?_)
          refine q_iinc (c := 1) hG rfl rfl rfl rfl ?_
          refine q_iinc (c := 1) hG rfl rfl rfl rfl ?_
          refine q_goto hG rfl ?_
          refine Eq.mp ?_ (ih _ (by omega) (k + 1) rfl (by omega))
          congr 1
          show [_, _, some (Value.int (i3 (sm _ k + (if ahP I b k x then 1 else 0)))), _] = [_, _, _, _]
          first
          | rw [if_pos ha]; rfl
          | rw [if_neg ha, Int.add_zero]; rfl
        · refine q_if_eq hG rfl ⟨by omega, by omega⟩ (fun _ => ?_) (fun q => absurd (by decide) q)
          refine q_iinc (c := 1) hG rfl rfl rfl rfl ?_
          refine q_goto hG rfl ?_
          refine Eq.mp ?_ (ih _ (by omega) (k + 1) rfl (by omega))
          congr 1
          show [_, _, some (Value.int (i3 (sm _ k + (if ahP I b k x then 1 else 0)))), _] = [_, _, _, _]
          first
          | rw [if_pos ha]; rfl
          | rw [if_neg ha, Int.add_zero]; rfl
  show G 0 [some (.ref b), some (.int (i3 ((x : Int)))), none, none] [] (wI B I)
  refine q_iconst (v := 0) hG rfl rfl ?_
  refine q_istore_n hG rfl rfl ?_
  refine q_iconst (v := 0) hG rfl rfl ?_
  refine q_istore_n hG rfl rfl ?_
  exact lp _ 0 rfl (by omega)
theorem s_D_at {d : Nat} {B : HP} {I : IM} {Post : Out → HP → Prop} {b : Nat} {x : Int} (hb : oD B b) (hx : r32 x) (hn : 0 ≤ I b 0 ∧ I b 0 ≤ 6) (hm : 0 ≤ I (b + 7) 0 ∧ I (b + 7) 0 ≤ 10) (hr : ∀ k, k < 6 → sB (I (b + 5) k) ∧ sB (I (b + 6) k)) (hf : ∀ k : Nat, (k : Int) < I (b + 7) 0 → r32 (I (b + 10) k) ∧ r32 (I (b + 11) k)) (p1 : ∀ p : Nat, fst (fun q => sm (fun o => if ahP I b o q then 1 else 0) (I b 0).toNat = x) (I b 0).toNat p → Post (.inl (some (.int (i3 (p : Int))))) (wI B I)) (p0 : (∀ q, q < (I b 0).toNat → ¬ sm (fun o => if ahP I b o q then 1 else 0) (I b 0).toNat = x) → Post (.inl (some (.int (i3 (-1))))) (wI B I)) : Sp (d + 4) k_X2_doorAtRank [.ref b, .int (i3 (x))] (wI B I) Post := by
  refine Sp_intro md_X2_doorAtRank rfl rfl (fun G hG => ?_)
  have hb0 := hb
  obtain ⟨k1, k2, k3, k4, hF, hB, hC⟩ := hb
  have kF := hF.1
  have kB := hB.1
  have kC := hC.1
  have lp : ∀ (m : Nat) (k : Nat), (I b 0).toNat - k = m → k ≤ (I b 0).toNat → (∀ q, q < k → ¬ sm (fun o => if ahP I b o q then 1 else 0) (I b 0).toNat = x) → G 2 [some (.ref b), some (.int (i3 x)), some (.int (i3 (k : Int)))] [] (wI B I) := by
    intro m
    induction m using Nat.strongRecOn with
    | ind m ih =>
      intro k hme hk hq0
      refine q_iload_n hG rfl rfl ?_
      refine q_aload_n hG rfl rfl ?_
      refine q_getI0 hG rfl (by assumption) ?_
      refine q_icmp_ge hG rfl ⟨by omega, by omega⟩ ⟨by omega, by omega⟩ (fun hc7 => ?_) (fun hc7 => ?_)
      · refine q_iconst (v := -1) hG rfl rfl ?_
        refine q_iret0 hG rfl rfl ?_
        exact p0 (fun q hq => hq0 q (by omega))
      · refine q_aload_n hG rfl rfl ?_
        refine q_iload_n hG rfl rfl ?_
        refine q_callV6 hG rfl rfl rfl (by assumption) (s_D_rank hb0 (by omega) hn hm hr hf ?_)
        refine q_iload_n hG rfl rfl ?_
        refine q_icmp_ne hG rfl (by have := sm_bd (f := fun o => if ahP I b o k then 1 else 0) (a := 0) (b := 1) (I b 0).toNat (fun z _ => by split <;> omega); exact ⟨by omega, by omega⟩) (hx) (fun hc16 => ?_) (fun hc16 => ?_)
        · refine q_iinc (c := 1) hG rfl rfl rfl rfl ?_
          refine q_goto hG rfl ?_
          exact ih _ (by omega) (k + 1) rfl (by omega) (fun q hq => if e : q = k then by subst e; exact hc16 else hq0 q (by omega))
        · refine q_iload_n hG rfl rfl ?_
          refine q_iret0 hG rfl rfl ?_
          exact p1 k ⟨by omega, by omega, hq0⟩
  show G 0 [some (.ref b), some (.int (i3 (x))), none] [] (wI B I)
  refine q_iconst (v := 0) hG rfl rfl ?_
  refine q_istore_n hG rfl rfl ?_
  exact lp _ 0 rfl (by omega) (fun q hq => by omega)
theorem s_D_copy {d : Nat} {B : HP} {I : IM} {Post : Out → HP → Prop} {b o : Nat} (hb : oD B b) (ho : oD B o) (hbo : b + 13 ≤ o ∨ o + 13 ≤ b) (hy : ∀ q, q < 10 → 0 ≤ I (o + 9) q ∧ I (o + 9) q < 65536) (hp : ∀ J : IM, dEq I o J b → (∀ a, a < b ∨ b + 12 < a → J a = I a) → Post (.inl none) (wI B J)) : Sp (d + 2) k_X2_copyFrom [.ref b, .ref o] (wI B I) Post := by
  refine Sp_intro md_X2_copyFrom rfl rfl (fun G hG => ?_)
  have hb0 := hb
  obtain ⟨k1, k2, k3, k4, hF, hB, hC⟩ := hb
  have kF := hF.1
  have kB := hB.1
  have kC := hC.1
  have ho0 := ho
  obtain ⟨m1, m2, m3, m4, -, -, -⟩ := ho
  show G 0 [some (.ref b), some (.ref o)] [] (wI B I)
  refine q_aload_n hG rfl rfl ?_
  refine q_aload_n hG rfl rfl ?_
  refine q_getI0 hG rfl (by assumption) ?_
  refine q_putI0 hG rfl (by assumption) ?_
  refine q_aload_n hG rfl rfl ?_
  refine q_getR hG rfl (by assumption) (by assumption) ?_
  refine q_aload_n hG rfl rfl ?_
  refine q_getR hG rfl (by assumption) (by assumption) ?_
  refine q_callV6 hG rfl rfl rfl (by assumption) (s_B_copy hb0.2.2.2.2.1 ho0.2.2.2.2.1 (by omega) (fun J1 a1 a2 a3 => ?_))
  refine q_aload_n hG rfl rfl ?_
  refine q_getR hG rfl (by assumption) (by assumption) ?_
  refine q_aload_n hG rfl rfl ?_
  refine q_getR hG rfl (by assumption) (by assumption) ?_
  refine q_callV6 hG rfl rfl rfl (by assumption) (s_B_copy hb0.2.2.2.2.2.1 ho0.2.2.2.2.2.1 (by omega) (fun J2 b1 b2 b3 => ?_))
  refine q_aload_n hG rfl rfl ?_
  refine q_getR hG rfl (by assumption) (by assumption) ?_
  refine q_aload_n hG rfl rfl ?_
  refine q_getR hG rfl (by assumption) (by assumption) ?_
  refine q_callV6 hG rfl rfl rfl (by assumption) (s_C_copy hb0.2.2.2.2.2.2 ho0.2.2.2.2.2.2 (by omega) (fun q hq => by rw [b3 _ (by omega) (by omega), a3 _ (by omega) (by omega), st_row _ _ (by omega)]; exact hy q hq) (fun J3 c1 c2 c3 c4 c5 c6 c7 c8 => ?_))
  refine q_aload_n hG rfl rfl ?_
  refine q_aload_n hG rfl rfl ?_
  refine q_getI0 hG rfl (by assumption) ?_
  refine q_putI0 hG rfl (by assumption) ?_
  refine q_aload_n hG rfl rfl ?_
  refine q_aload_n hG rfl rfl ?_
  refine q_getI0 hG rfl (by assumption) ?_
  refine q_putI0 hG rfl (by assumption) ?_
  refine q_vret hG rfl ?_
  refine hp _ ?_ (fun a ha => ?_)
  · have z1 : ∀ a, a < b → a ≠ b → J3 a = I a := fun a h1 h2 => by rw [c8 _ (by omega), b3 _ (by omega) (by omega), a3 _ (by omega) (by omega), st_row _ _ (by omega)]
    have zo : ∀ a, a < b ∨ b + 12 < a → J2 a = I a := fun a ha => by rw [b3 _ (by omega) (by omega), a3 _ (by omega) (by omega), st_row _ _ (by omega)]
    have zo3 : ∀ a, a < b ∨ b + 12 < a → J3 a = I a := fun a ha => by rw [c8 _ (by omega), zo a ha]
    refine ⟨?_, ?_, ?_, fun j hj => ⟨?_, ?_, ?_, ?_⟩, ?_, ?_, fun j hj => ⟨?_, ?_, ?_, ?_, ?_⟩⟩
    · rw [st_ne _ _ (by omega), st_ne _ _ (by omega), c8 _ (by omega), b3 _ (by omega) (by omega), a3 _ (by omega) (by omega), st_same]
    · rw [st_ne _ _ (by omega), st_same, zo3 _ (by omega)]
    · rw [st_same, st_row _ _ (by omega), zo3 _ (by omega)]
    · rw [st_row _ _ (by omega), st_row _ _ (by omega), c8 _ (by omega), b3 _ (by omega) (by omega)]
      refine (a1 j hj).trans ?_
      rw [st_row _ _ (by omega)]
    · rw [st_row _ _ (by omega), st_row _ _ (by omega), c8 _ (by omega), b3 _ (by omega) (by omega)]
      refine (a2 j hj).trans ?_
      rw [st_row _ _ (by omega)]
    · rw [st_row _ _ (by omega), st_row _ _ (by omega), c8 _ (by omega)]
      refine (b1 j hj).trans ?_
      rw [a3 _ (by omega) (by omega), st_row _ _ (by omega)]
    · rw [st_row _ _ (by omega), st_row _ _ (by omega), c8 _ (by omega)]
      refine (b2 j hj).trans ?_
      rw [a3 _ (by omega) (by omega), st_row _ _ (by omega)]
    · rw [st_row _ _ (by omega), st_row _ _ (by omega), c1, zo _ (by omega)]
    · rw [st_row _ _ (by omega), st_row _ _ (by omega), c2, zo _ (by omega)]
    · rw [st_row _ _ (by omega), st_row _ _ (by omega)]
      refine (c3 j hj).trans ?_
      rw [zo _ (by omega)]
    · rw [st_row _ _ (by omega), st_row _ _ (by omega)]
      refine (c4 j hj).trans ?_
      rw [zo _ (by omega)]
    · rw [st_row _ _ (by omega), st_row _ _ (by omega)]
      refine (c5 j hj).trans ?_
      rw [zo _ (by omega)]
    · rw [st_row _ _ (by omega), st_row _ _ (by omega)]
      refine (c6 j hj).trans ?_
      rw [zo _ (by omega)]
    · rw [st_row _ _ (by omega), st_row _ _ (by omega)]
      refine (c7 j hj).trans ?_
      rw [zo _ (by omega)]
  · rw [st_row _ _ (by omega), st_row _ _ (by omega), c8 _ (by omega), b3 _ (by omega) (by omega), a3 _ (by omega) (by omega), st_row _ _ (by omega)]
