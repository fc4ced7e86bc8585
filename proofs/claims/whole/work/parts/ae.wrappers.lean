/-! the law's wrappers: what is thrown becomes a number, what is answered lies in an array -/
theorem s_L_addConstraint {d : Nat} {B : HP} {I : IM} {Post : Out → HP → Prop} {a b e f : Int} (hx : hK B 0 = (18, 0)) (h : ∀ P : Out → HP → Prop, (∀ (v : Int) (B2 : HP) (J : IM), hK B2 184 = (2, 1) → Post (.inl (some (.int (i3 0)))) (wI (sJ B2 184 0 (i3 v).toInt64) J) → P (.inl (some (.int (i3 v)))) (wI B2 J)) → (∀ (B2 : HP) (J : IM), Post (.inl (some (.int (i3 1)))) (wI B2 J) → P (.inr 2) (wI B2 J)) → (∀ (B2 : HP) (J : IM), Post (.inl (some (.int (i3 2)))) (wI B2 J) → P (.inr 0) (wI B2 J)) → (∀ (B2 : HP) (J : IM), Post (.inl (some (.int (i3 3)))) (wI B2 J) → P (.inr 1) (wI B2 J)) → Sp d k_X8_addConstraint [.ref 0, .int (i3 (a)), .int (i3 (b)), .int (i3 (e)), .int (i3 (f))] (wI B I) P) : Sp (d + 1) k_L_addConstraint [.ref 0, .int (i3 (a)), .int (i3 (b)), .int (i3 (e)), .int (i3 (f)), .ref 184] (wI B I) Post := by
  refine Sp_intro md_L_addConstraint rfl rfl (fun G hG => ?_)
  show G 0 [some (.ref 0), some (.int (i3 (a))), some (.int (i3 (b))), some (.int (i3 (e))), some (.int (i3 (f))), some (.ref 184), none] [] (wI B I)
  refine q_aload hG rfl rfl ?_
  refine q_iconst (v := 0) hG rfl rfl ?_
  refine q_aload_n hG rfl rfl ?_
  refine q_iload_n hG rfl rfl ?_
  refine q_iload_n hG rfl rfl ?_
  refine q_iload_n hG rfl rfl ?_
  refine q_iload hG rfl rfl ?_
  refine q_callV6 hG rfl rfl rfl hx (h _ (fun v B2 J hk p => ?_) (fun B2 J p => ?_) (fun B2 J p => ?_) (fun B2 J p => ?_))
  · refine q_i2l hG rfl ?_
    refine q_last hG rfl hk ⟨by omega, by omega, by omega⟩ ?_
    refine q_goto hG rfl ?_
    refine q_iconst (v := 0) hG rfl rfl ?_
    refine q_iret0 hG rfl rfl ?_
    exact p
  · refine q_astoreJ hG rfl rfl ?_
    refine q_iconst (v := 1) hG rfl rfl ?_
    refine q_iret0 hG rfl rfl ?_
    exact p
  · refine q_astoreJ hG rfl rfl ?_
    refine q_iconst (v := 2) hG rfl rfl ?_
    refine q_iret0 hG rfl rfl ?_
    exact p
  · refine q_astoreJ hG rfl rfl ?_
    refine q_iconst (v := 3) hG rfl rfl ?_
    refine q_iret0 hG rfl rfl ?_
    exact p
theorem s_L_addDoor {d : Nat} {B : HP} {I : IM} {Post : Out → HP → Prop} {a b : Int} (hx : hK B 0 = (18, 0)) (h : ∀ P : Out → HP → Prop, (∀ (v : Int) (B2 : HP) (J : IM), hK B2 184 = (2, 1) → Post (.inl (some (.int (i3 0)))) (wI (sJ B2 184 0 (i3 v).toInt64) J) → P (.inl (some (.int (i3 v)))) (wI B2 J)) → (∀ (B2 : HP) (J : IM), Post (.inl (some (.int (i3 1)))) (wI B2 J) → P (.inr 0) (wI B2 J)) → (∀ (B2 : HP) (J : IM), Post (.inl (some (.int (i3 2)))) (wI B2 J) → P (.inr 1) (wI B2 J)) → Sp d k_X8_addDoor [.ref 0, .int (i3 (a)), .int (i3 (b))] (wI B I) P) : Sp (d + 1) k_L_addDoor [.ref 0, .int (i3 (a)), .int (i3 (b)), .ref 184] (wI B I) Post := by
  refine Sp_intro md_L_addDoor rfl rfl (fun G hG => ?_)
  show G 0 [some (.ref 0), some (.int (i3 (a))), some (.int (i3 (b))), some (.ref 184), none] [] (wI B I)
  refine q_aload_n hG rfl rfl ?_
  refine q_iconst (v := 0) hG rfl rfl ?_
  refine q_aload_n hG rfl rfl ?_
  refine q_iload_n hG rfl rfl ?_
  refine q_iload_n hG rfl rfl ?_
  refine q_callV6 hG rfl rfl rfl hx (h _ (fun v B2 J hk p => ?_) (fun B2 J p => ?_) (fun B2 J p => ?_))
  · refine q_i2l hG rfl ?_
    refine q_last hG rfl hk ⟨by omega, by omega, by omega⟩ ?_
    refine q_goto hG rfl ?_
    refine q_iconst (v := 0) hG rfl rfl ?_
    refine q_iret0 hG rfl rfl ?_
    exact p
  · refine q_astoreJ hG rfl rfl ?_
    refine q_iconst (v := 1) hG rfl rfl ?_
    refine q_iret0 hG rfl rfl ?_
    exact p
  · refine q_astoreJ hG rfl rfl ?_
    refine q_iconst (v := 2) hG rfl rfl ?_
    refine q_iret0 hG rfl rfl ?_
    exact p
theorem s_L_appendInput {d : Nat} {B : HP} {I : IM} {Post : Out → HP → Prop} {a : Int} (hx : hK B 0 = (18, 0)) (h : ∀ P : Out → HP → Prop, (∀ (v : Int) (B2 : HP) (J : IM), hK B2 184 = (2, 1) → Post (.inl (some (.int (i3 0)))) (wI (sJ B2 184 0 (i3 v).toInt64) J) → P (.inl (some (.int (i3 v)))) (wI B2 J)) → (∀ (B2 : HP) (J : IM), Post (.inl (some (.int (i3 1)))) (wI B2 J) → P (.inr 0) (wI B2 J)) → (∀ (B2 : HP) (J : IM), Post (.inl (some (.int (i3 2)))) (wI B2 J) → P (.inr 4) (wI B2 J)) → Sp d k_X8_appendInput [.ref 0, .int (i3 (a))] (wI B I) P) : Sp (d + 1) k_L_appendInput [.ref 0, .int (i3 (a)), .ref 184] (wI B I) Post := by
  refine Sp_intro md_L_appendInput rfl rfl (fun G hG => ?_)
  show G 0 [some (.ref 0), some (.int (i3 (a))), some (.ref 184), none] [] (wI B I)
  refine q_aload_n hG rfl rfl ?_
  refine q_iconst (v := 0) hG rfl rfl ?_
  refine q_aload_n hG rfl rfl ?_
  refine q_iload_n hG rfl rfl ?_
  refine q_callV6 hG rfl rfl rfl hx (h _ (fun v B2 J hk p => ?_) (fun B2 J p => ?_) (fun B2 J p => ?_))
  · refine q_i2l hG rfl ?_
    refine q_last hG rfl hk ⟨by omega, by omega, by omega⟩ ?_
    refine q_goto hG rfl ?_
    refine q_iconst (v := 0) hG rfl rfl ?_
    refine q_iret0 hG rfl rfl ?_
    exact p
  · refine q_astoreJ_n hG rfl rfl ?_
    refine q_iconst (v := 1) hG rfl rfl ?_
    refine q_iret0 hG rfl rfl ?_
    exact p
  · refine q_astoreJ_n hG rfl rfl ?_
    refine q_iconst (v := 2) hG rfl rfl ?_
    refine q_iret0 hG rfl rfl ?_
    exact p
theorem s_L_arePossible {d : Nat} {B : HP} {I : IM} {Post : Out → HP → Prop} {a b e f : Int} (hx : hK B 0 = (18, 0)) (h : ∀ P : Out → HP → Prop, (∀ (B2 : HP) (J : IM), hK B2 184 = (2, 1) → Post (.inl (some (.int (i3 0)))) (wI (sJ B2 184 0 1) J) → P (.inl (some (.int (i3 1)))) (wI B2 J)) → (∀ (B2 : HP) (J : IM), hK B2 184 = (2, 1) → Post (.inl (some (.int (i3 0)))) (wI (sJ B2 184 0 0) J) → P (.inl (some (.int (i3 0)))) (wI B2 J)) → (∀ (B2 : HP) (J : IM), Post (.inl (some (.int (i3 1)))) (wI B2 J) → P (.inr 2) (wI B2 J)) → (∀ (B2 : HP) (J : IM), Post (.inl (some (.int (i3 2)))) (wI B2 J) → P (.inr 0) (wI B2 J)) → Sp d k_X8_arePossible [.ref 0, .int (i3 (a)), .int (i3 (b)), .int (i3 (e)), .int (i3 (f))] (wI B I) P) : Sp (d + 1) k_L_arePossible [.ref 0, .int (i3 (a)), .int (i3 (b)), .int (i3 (e)), .int (i3 (f)), .ref 184] (wI B I) Post := by
  refine Sp_intro md_L_arePossible rfl rfl (fun G hG => ?_)
  show G 0 [some (.ref 0), some (.int (i3 (a))), some (.int (i3 (b))), some (.int (i3 (e))), some (.int (i3 (f))), some (.ref 184), none] [] (wI B I)
  refine q_aload hG rfl rfl ?_
  refine q_iconst (v := 0) hG rfl rfl ?_
  refine q_aload_n hG rfl rfl ?_
  refine q_iload_n hG rfl rfl ?_
  refine q_iload_n hG rfl rfl ?_
  refine q_iload_n hG rfl rfl ?_
  refine q_iload hG rfl rfl ?_
  refine q_callV6 hG rfl rfl rfl hx (h _ (fun B2 J hk p => ?_) (fun B2 J hk p => ?_) (fun B2 J p => ?_) (fun B2 J p => ?_))
  · refine q_if_eq hG rfl ⟨by omega, by omega⟩ (fun q => absurd q (by decide)) (fun _ => ?_)
    refine q_lconst1 hG rfl ?_
    refine q_goto hG rfl ?_
    refine q_last hG rfl hk ⟨by omega, by omega, by omega⟩ ?_
    refine q_goto hG rfl ?_
    refine q_iconst (v := 0) hG rfl rfl ?_
    refine q_iret0 hG rfl rfl ?_
    exact p
  · refine q_if_eq hG rfl ⟨by omega, by omega⟩ (fun _ => ?_) (fun q => absurd (by decide) q)
    refine q_lconst0 hG rfl ?_
    refine q_last hG rfl hk ⟨by omega, by omega, by omega⟩ ?_
    refine q_goto hG rfl ?_
    refine q_iconst (v := 0) hG rfl rfl ?_
    refine q_iret0 hG rfl rfl ?_
    exact p
  · refine q_astoreJ hG rfl rfl ?_
    refine q_iconst (v := 1) hG rfl rfl ?_
    refine q_iret0 hG rfl rfl ?_
    exact p
  · refine q_astoreJ hG rfl rfl ?_
    refine q_iconst (v := 2) hG rfl rfl ?_
    refine q_iret0 hG rfl rfl ?_
    exact p
theorem s_L_causeReason {d : Nat} {B : HP} {I : IM} {Post : Out → HP → Prop} (hx : hK B 0 = (18, 0)) (h : ∀ P : Out → HP → Prop, (∀ (v : Int) (B2 : HP) (J : IM), hK B2 184 = (2, 1) → Post (.inl (some (.int (i3 0)))) (wI (sJ B2 184 0 (i3 v).toInt64) J) → P (.inl (some (.int (i3 v)))) (wI B2 J)) → (∀ (B2 : HP) (J : IM), Post (.inl (some (.int (i3 1)))) (wI B2 J) → P (.inr 3) (wI B2 J)) → Sp d k_X8_causeReason [.ref 0] (wI B I) P) : Sp (d + 1) k_L_causeReason [.ref 0, .ref 184] (wI B I) Post := by
  refine Sp_intro md_L_causeReason rfl rfl (fun G hG => ?_)
  show G 0 [some (.ref 0), some (.ref 184), none] [] (wI B I)
  refine q_aload_n hG rfl rfl ?_
  refine q_iconst (v := 0) hG rfl rfl ?_
  refine q_aload_n hG rfl rfl ?_
  refine q_callV6 hG rfl rfl rfl hx (h _ (fun v B2 J hk p => ?_) (fun B2 J p => ?_))
  · refine q_i2l hG rfl ?_
    refine q_last hG rfl hk ⟨by omega, by omega, by omega⟩ ?_
    refine q_goto hG rfl ?_
    refine q_iconst (v := 0) hG rfl rfl ?_
    refine q_iret0 hG rfl rfl ?_
    exact p
  · refine q_astoreJ_n hG rfl rfl ?_
    refine q_iconst (v := 1) hG rfl rfl ?_
    refine q_iret0 hG rfl rfl ?_
    exact p
theorem s_L_constraintAt {d : Nat} {B : HP} {I : IM} {Post : Out → HP → Prop} {a : Int} (hx : hK B 0 = (18, 0)) (h : ∀ P : Out → HP → Prop, (∀ (v : Int) (B2 : HP) (J : IM), hK B2 184 = (2, 1) → Post (.inl (some (.int (i3 0)))) (wI (sJ B2 184 0 (i3 v).toInt64) J) → P (.inl (some (.int (i3 v)))) (wI B2 J)) → (∀ (B2 : HP) (J : IM), Post (.inl (some (.int (i3 1)))) (wI B2 J) → P (.inr 3) (wI B2 J)) → Sp d k_X8_constraintAt [.ref 0, .int (i3 (a))] (wI B I) P) : Sp (d + 1) k_L_constraintAt [.ref 0, .int (i3 (a)), .ref 184] (wI B I) Post := by
  refine Sp_intro md_L_constraintAt rfl rfl (fun G hG => ?_)
  show G 0 [some (.ref 0), some (.int (i3 (a))), some (.ref 184), none] [] (wI B I)
  refine q_aload_n hG rfl rfl ?_
  refine q_iconst (v := 0) hG rfl rfl ?_
  refine q_aload_n hG rfl rfl ?_
  refine q_iload_n hG rfl rfl ?_
  refine q_callV6 hG rfl rfl rfl hx (h _ (fun v B2 J hk p => ?_) (fun B2 J p => ?_))
  · refine q_i2l hG rfl ?_
    refine q_last hG rfl hk ⟨by omega, by omega, by omega⟩ ?_
    refine q_goto hG rfl ?_
    refine q_iconst (v := 0) hG rfl rfl ?_
    refine q_iret0 hG rfl rfl ?_
    exact p
  · refine q_astoreJ_n hG rfl rfl ?_
    refine q_iconst (v := 1) hG rfl rfl ?_
    refine q_iret0 hG rfl rfl ?_
    exact p
theorem s_L_constraintByGap {d : Nat} {B : HP} {I : IM} {Post : Out → HP → Prop} {a : Int} (hx : hK B 0 = (18, 0)) (h : ∀ P : Out → HP → Prop, (∀ (v : Int) (B2 : HP) (J : IM), hK B2 184 = (2, 1) → Post (.inl (some (.int (i3 0)))) (wI (sJ B2 184 0 (i3 v).toInt64) J) → P (.inl (some (.int (i3 v)))) (wI B2 J)) → (∀ (B2 : HP) (J : IM), Post (.inl (some (.int (i3 1)))) (wI B2 J) → P (.inr 3) (wI B2 J)) → Sp d k_X8_constraintByGap [.ref 0, .int (i3 (a))] (wI B I) P) : Sp (d + 1) k_L_constraintByGap [.ref 0, .int (i3 (a)), .ref 184] (wI B I) Post := by
  refine Sp_intro md_L_constraintByGap rfl rfl (fun G hG => ?_)
  show G 0 [some (.ref 0), some (.int (i3 (a))), some (.ref 184), none] [] (wI B I)
  refine q_aload_n hG rfl rfl ?_
  refine q_iconst (v := 0) hG rfl rfl ?_
  refine q_aload_n hG rfl rfl ?_
  refine q_iload_n hG rfl rfl ?_
  refine q_callV6 hG rfl rfl rfl hx (h _ (fun v B2 J hk p => ?_) (fun B2 J p => ?_))
  · refine q_i2l hG rfl ?_
    refine q_last hG rfl hk ⟨by omega, by omega, by omega⟩ ?_
    refine q_goto hG rfl ?_
    refine q_iconst (v := 0) hG rfl rfl ?_
    refine q_iret0 hG rfl rfl ?_
    exact p
  · refine q_astoreJ_n hG rfl rfl ?_
    refine q_iconst (v := 1) hG rfl rfl ?_
    refine q_iret0 hG rfl rfl ?_
    exact p
theorem s_L_constraintsOf {d : Nat} {B : HP} {I : IM} {Post : Out → HP → Prop} {a : Int} (hx : hK B 0 = (18, 0)) (h : ∀ P : Out → HP → Prop, (∀ (v : Int) (B2 : HP) (J : IM), hK B2 184 = (2, 1) → Post (.inl (some (.int (i3 0)))) (wI (sJ B2 184 0 (i3 v).toInt64) J) → P (.inl (some (.int (i3 v)))) (wI B2 J)) → (∀ (B2 : HP) (J : IM), Post (.inl (some (.int (i3 1)))) (wI B2 J) → P (.inr 2) (wI B2 J)) → Sp d k_X8_constraintsOf [.ref 0, .int (i3 (a))] (wI B I) P) : Sp (d + 1) k_L_constraintsOf [.ref 0, .int (i3 (a)), .ref 184] (wI B I) Post := by
  refine Sp_intro md_L_constraintsOf rfl rfl (fun G hG => ?_)
  show G 0 [some (.ref 0), some (.int (i3 (a))), some (.ref 184), none] [] (wI B I)
  refine q_aload_n hG rfl rfl ?_
  refine q_iconst (v := 0) hG rfl rfl ?_
  refine q_aload_n hG rfl rfl ?_
  refine q_iload_n hG rfl rfl ?_
  refine q_callV6 hG rfl rfl rfl hx (h _ (fun v B2 J hk p => ?_) (fun B2 J p => ?_))
  · refine q_i2l hG rfl ?_
    refine q_last hG rfl hk ⟨by omega, by omega, by omega⟩ ?_
    refine q_goto hG rfl ?_
    refine q_iconst (v := 0) hG rfl rfl ?_
    refine q_iret0 hG rfl rfl ?_
    exact p
  · refine q_astoreJ_n hG rfl rfl ?_
    refine q_iconst (v := 1) hG rfl rfl ?_
    refine q_iret0 hG rfl rfl ?_
    exact p
theorem s_L_doorByWidth {d : Nat} {B : HP} {I : IM} {Post : Out → HP → Prop} {a : Int} (hx : hK B 0 = (18, 0)) (h : ∀ P : Out → HP → Prop, (∀ (v : Int) (B2 : HP) (J : IM), hK B2 184 = (2, 1) → Post (.inl (some (.int (i3 0)))) (wI (sJ B2 184 0 (i3 v).toInt64) J) → P (.inl (some (.int (i3 v)))) (wI B2 J)) → (∀ (B2 : HP) (J : IM), Post (.inl (some (.int (i3 1)))) (wI B2 J) → P (.inr 3) (wI B2 J)) → Sp d k_X8_doorByWidth [.ref 0, .int (i3 (a))] (wI B I) P) : Sp (d + 1) k_L_doorByWidth [.ref 0, .int (i3 (a)), .ref 184] (wI B I) Post := by
  refine Sp_intro md_L_doorByWidth rfl rfl (fun G hG => ?_)
  show G 0 [some (.ref 0), some (.int (i3 (a))), some (.ref 184), none] [] (wI B I)
  refine q_aload_n hG rfl rfl ?_
  refine q_iconst (v := 0) hG rfl rfl ?_
  refine q_aload_n hG rfl rfl ?_
  refine q_iload_n hG rfl rfl ?_
  refine q_callV6 hG rfl rfl rfl hx (h _ (fun v B2 J hk p => ?_) (fun B2 J p => ?_))
  · refine q_i2l hG rfl ?_
    refine q_last hG rfl hk ⟨by omega, by omega, by omega⟩ ?_
    refine q_goto hG rfl ?_
    refine q_iconst (v := 0) hG rfl rfl ?_
    refine q_iret0 hG rfl rfl ?_
    exact p
  · refine q_astoreJ_n hG rfl rfl ?_
    refine q_iconst (v := 1) hG rfl rfl ?_
    refine q_iret0 hG rfl rfl ?_
    exact p
theorem s_L_execute {d : Nat} {B : HP} {I : IM} {Post : Out → HP → Prop} (hx : hK B 0 = (18, 0)) (h : ∀ P : Out → HP → Prop, (∀ (v : Int) (B2 : HP) (J : IM), hK B2 184 = (2, 1) → Post (.inl (some (.int (i3 0)))) (wI (sJ B2 184 0 (i3 v).toInt64) J) → P (.inl (some (.int (i3 v)))) (wI B2 J)) → (∀ (B2 : HP) (J : IM), Post (.inl (some (.int (i3 1)))) (wI B2 J) → P (.inr 0) (wI B2 J)) → (∀ (B2 : HP) (J : IM), Post (.inl (some (.int (i3 2)))) (wI B2 J) → P (.inr 4) (wI B2 J)) → (∀ (B2 : HP) (J : IM), Post (.inl (some (.int (i3 3)))) (wI B2 J) → P (.inr 1) (wI B2 J)) → Sp d k_X8_execute [.ref 0] (wI B I) P) : Sp (d + 1) k_L_execute [.ref 0, .ref 184] (wI B I) Post := by
  refine Sp_intro md_L_execute rfl rfl (fun G hG => ?_)
  show G 0 [some (.ref 0), some (.ref 184), none] [] (wI B I)
  refine q_aload_n hG rfl rfl ?_
  refine q_iconst (v := 0) hG rfl rfl ?_
  refine q_aload_n hG rfl rfl ?_
  refine q_callV6 hG rfl rfl rfl hx (h _ (fun v B2 J hk p => ?_) (fun B2 J p => ?_) (fun B2 J p => ?_) (fun B2 J p => ?_))
  · refine q_i2l hG rfl ?_
    refine q_last hG rfl hk ⟨by omega, by omega, by omega⟩ ?_
    refine q_goto hG rfl ?_
    refine q_iconst (v := 0) hG rfl rfl ?_
    refine q_iret0 hG rfl rfl ?_
    exact p
  · refine q_astoreJ_n hG rfl rfl ?_
    refine q_iconst (v := 1) hG rfl rfl ?_
    refine q_iret0 hG rfl rfl ?_
    exact p
  · refine q_astoreJ_n hG rfl rfl ?_
    refine q_iconst (v := 2) hG rfl rfl ?_
    refine q_iret0 hG rfl rfl ?_
    exact p
  · refine q_astoreJ_n hG rfl rfl ?_
    refine q_iconst (v := 3) hG rfl rfl ?_
    refine q_iret0 hG rfl rfl ?_
    exact p
theorem s_L_firstOf {d : Nat} {B : HP} {I : IM} {Post : Out → HP → Prop} {a : Int} (hx : hK B 0 = (18, 0)) (h : ∀ P : Out → HP → Prop, (∀ (v : Int) (B2 : HP) (J : IM), hK B2 184 = (2, 1) → Post (.inl (some (.int (i3 0)))) (wI (sJ B2 184 0 (i3 v).toInt64) J) → P (.inl (some (.int (i3 v)))) (wI B2 J)) → (∀ (B2 : HP) (J : IM), Post (.inl (some (.int (i3 1)))) (wI B2 J) → P (.inr 3) (wI B2 J)) → Sp d k_X8_firstOf [.ref 0, .int (i3 (a))] (wI B I) P) : Sp (d + 1) k_L_firstOf [.ref 0, .int (i3 (a)), .ref 184] (wI B I) Post := by
  refine Sp_intro md_L_firstOf rfl rfl (fun G hG => ?_)
  show G 0 [some (.ref 0), some (.int (i3 (a))), some (.ref 184), none] [] (wI B I)
  refine q_aload_n hG rfl rfl ?_
  refine q_iconst (v := 0) hG rfl rfl ?_
  refine q_aload_n hG rfl rfl ?_
  refine q_iload_n hG rfl rfl ?_
  refine q_callV6 hG rfl rfl rfl hx (h _ (fun v B2 J hk p => ?_) (fun B2 J p => ?_))
  · refine q_i2l hG rfl ?_
    refine q_last hG rfl hk ⟨by omega, by omega, by omega⟩ ?_
    refine q_goto hG rfl ?_
    refine q_iconst (v := 0) hG rfl rfl ?_
    refine q_iret0 hG rfl rfl ?_
    exact p
  · refine q_astoreJ_n hG rfl rfl ?_
    refine q_iconst (v := 1) hG rfl rfl ?_
    refine q_iret0 hG rfl rfl ?_
    exact p
theorem s_L_fixedShare {d : Nat} {B : HP} {I : IM} {Post : Out → HP → Prop} (hx : hK B 0 = (18, 0)) (h : ∀ P : Out → HP → Prop, (∀ (v : UInt32) (B2 : HP) (J : IM), hK B2 185 = (5, 1) → vf_n64 (FP.f2d v) → Post (.inl (some (.int (i3 0)))) (wI (sU B2 185 0 (FP.f2d v)) J) → P (.inl (some (.float v))) (wI B2 J)) → (∀ (B2 : HP) (J : IM), Post (.inl (some (.int (i3 1)))) (wI B2 J) → P (.inr 5) (wI B2 J)) → Sp d k_X8_fixedShare [.ref 0] (wI B I) P) : Sp (d + 1) k_L_fixedShare [.ref 0, .ref 185] (wI B I) Post := by
  refine Sp_intro md_L_fixedShare rfl rfl (fun G hG => ?_)
  show G 0 [some (.ref 0), some (.ref 185), none] [] (wI B I)
  refine q_aload_n hG rfl rfl ?_
  refine q_iconst (v := 0) hG rfl rfl ?_
  refine q_aload_n hG rfl rfl ?_
  refine q_callV6 hG rfl rfl rfl hx (h _ (fun v B2 J hk hn p => ?_) (fun B2 J p => ?_))
  · refine q_f2d hG rfl hn ?_
    refine q_dast hG rfl hk ⟨by omega, by omega, by omega⟩ ?_
    refine q_goto hG rfl ?_
    refine q_iconst (v := 0) hG rfl rfl ?_
    refine q_iret0 hG rfl rfl ?_
    exact p
  · refine q_astoreJ_n hG rfl rfl ?_
    refine q_iconst (v := 1) hG rfl rfl ?_
    refine q_iret0 hG rfl rfl ?_
    exact p
theorem s_L_frameHigh {d : Nat} {B : HP} {I : IM} {Post : Out → HP → Prop} {a : Int} (hx : hK B 0 = (18, 0)) (h : ∀ P : Out → HP → Prop, (∀ (v : Int) (B2 : HP) (J : IM), hK B2 184 = (2, 1) → Post (.inl (some (.int (i3 0)))) (wI (sJ B2 184 0 (i3 v).toInt64) J) → P (.inl (some (.int (i3 v)))) (wI B2 J)) → (∀ (B2 : HP) (J : IM), Post (.inl (some (.int (i3 1)))) (wI B2 J) → P (.inr 2) (wI B2 J)) → Sp d k_X8_frameHigh [.ref 0, .int (i3 (a))] (wI B I) P) : Sp (d + 1) k_L_frameHigh [.ref 0, .int (i3 (a)), .ref 184] (wI B I) Post := by
  refine Sp_intro md_L_frameHigh rfl rfl (fun G hG => ?_)
  show G 0 [some (.ref 0), some (.int (i3 (a))), some (.ref 184), none] [] (wI B I)
  refine q_aload_n hG rfl rfl ?_
  refine q_iconst (v := 0) hG rfl rfl ?_
  refine q_aload_n hG rfl rfl ?_
  refine q_iload_n hG rfl rfl ?_
  refine q_callV6 hG rfl rfl rfl hx (h _ (fun v B2 J hk p => ?_) (fun B2 J p => ?_))
  · refine q_i2l hG rfl ?_
    refine q_last hG rfl hk ⟨by omega, by omega, by omega⟩ ?_
    refine q_goto hG rfl ?_
    refine q_iconst (v := 0) hG rfl rfl ?_
    refine q_iret0 hG rfl rfl ?_
    exact p
  · refine q_astoreJ_n hG rfl rfl ?_
    refine q_iconst (v := 1) hG rfl rfl ?_
    refine q_iret0 hG rfl rfl ?_
    exact p
theorem s_L_frameLow {d : Nat} {B : HP} {I : IM} {Post : Out → HP → Prop} {a : Int} (hx : hK B 0 = (18, 0)) (h : ∀ P : Out → HP → Prop, (∀ (v : Int) (B2 : HP) (J : IM), hK B2 184 = (2, 1) → Post (.inl (some (.int (i3 0)))) (wI (sJ B2 184 0 (i3 v).toInt64) J) → P (.inl (some (.int (i3 v)))) (wI B2 J)) → (∀ (B2 : HP) (J : IM), Post (.inl (some (.int (i3 1)))) (wI B2 J) → P (.inr 2) (wI B2 J)) → Sp d k_X8_frameLow [.ref 0, .int (i3 (a))] (wI B I) P) : Sp (d + 1) k_L_frameLow [.ref 0, .int (i3 (a)), .ref 184] (wI B I) Post := by
  refine Sp_intro md_L_frameLow rfl rfl (fun G hG => ?_)
  show G 0 [some (.ref 0), some (.int (i3 (a))), some (.ref 184), none] [] (wI B I)
  refine q_aload_n hG rfl rfl ?_
  refine q_iconst (v := 0) hG rfl rfl ?_
  refine q_aload_n hG rfl rfl ?_
  refine q_iload_n hG rfl rfl ?_
  refine q_callV6 hG rfl rfl rfl hx (h _ (fun v B2 J hk p => ?_) (fun B2 J p => ?_))
  · refine q_i2l hG rfl ?_
    refine q_last hG rfl hk ⟨by omega, by omega, by omega⟩ ?_
    refine q_goto hG rfl ?_
    refine q_iconst (v := 0) hG rfl rfl ?_
    refine q_iret0 hG rfl rfl ?_
    exact p
  · refine q_astoreJ_n hG rfl rfl ?_
    refine q_iconst (v := 1) hG rfl rfl ?_
    refine q_iret0 hG rfl rfl ?_
    exact p
theorem s_L_gapOf {d : Nat} {B : HP} {I : IM} {Post : Out → HP → Prop} {a : Int} (hx : hK B 0 = (18, 0)) (h : ∀ P : Out → HP → Prop, (∀ (v : Int) (B2 : HP) (J : IM), hK B2 184 = (2, 1) → Post (.inl (some (.int (i3 0)))) (wI (sJ B2 184 0 (i3 v).toInt64) J) → P (.inl (some (.int (i3 v)))) (wI B2 J)) → (∀ (B2 : HP) (J : IM), Post (.inl (some (.int (i3 1)))) (wI B2 J) → P (.inr 3) (wI B2 J)) → Sp d k_X8_gapOf [.ref 0, .int (i3 (a))] (wI B I) P) : Sp (d + 1) k_L_gapOf [.ref 0, .int (i3 (a)), .ref 184] (wI B I) Post := by
  refine Sp_intro md_L_gapOf rfl rfl (fun G hG => ?_)
  show G 0 [some (.ref 0), some (.int (i3 (a))), some (.ref 184), none] [] (wI B I)
  refine q_aload_n hG rfl rfl ?_
  refine q_iconst (v := 0) hG rfl rfl ?_
  refine q_aload_n hG rfl rfl ?_
  refine q_iload_n hG rfl rfl ?_
  refine q_callV6 hG rfl rfl rfl hx (h _ (fun v B2 J hk p => ?_) (fun B2 J p => ?_))
  · refine q_i2l hG rfl ?_
    refine q_last hG rfl hk ⟨by omega, by omega, by omega⟩ ?_
    refine q_goto hG rfl ?_
    refine q_iconst (v := 0) hG rfl rfl ?_
    refine q_iret0 hG rfl rfl ?_
    exact p
  · refine q_astoreJ_n hG rfl rfl ?_
    refine q_iconst (v := 1) hG rfl rfl ?_
    refine q_iret0 hG rfl rfl ?_
    exact p
theorem s_L_highOf {d : Nat} {B : HP} {I : IM} {Post : Out → HP → Prop} {a : Int} (hx : hK B 0 = (18, 0)) (h : ∀ P : Out → HP → Prop, (∀ (v : Int) (B2 : HP) (J : IM), hK B2 184 = (2, 1) → Post (.inl (some (.int (i3 0)))) (wI (sJ B2 184 0 (i3 v).toInt64) J) → P (.inl (some (.int (i3 v)))) (wI B2 J)) → (∀ (B2 : HP) (J : IM), Post (.inl (some (.int (i3 1)))) (wI B2 J) → P (.inr 2) (wI B2 J)) → Sp d k_X8_highOf [.ref 0, .int (i3 (a))] (wI B I) P) : Sp (d + 1) k_L_highOf [.ref 0, .int (i3 (a)), .ref 184] (wI B I) Post := by
  refine Sp_intro md_L_highOf rfl rfl (fun G hG => ?_)
  show G 0 [some (.ref 0), some (.int (i3 (a))), some (.ref 184), none] [] (wI B I)
  refine q_aload_n hG rfl rfl ?_
  refine q_iconst (v := 0) hG rfl rfl ?_
  refine q_aload_n hG rfl rfl ?_
  refine q_iload_n hG rfl rfl ?_
  refine q_callV6 hG rfl rfl rfl hx (h _ (fun v B2 J hk p => ?_) (fun B2 J p => ?_))
  · refine q_i2l hG rfl ?_
    refine q_last hG rfl hk ⟨by omega, by omega, by omega⟩ ?_
    refine q_goto hG rfl ?_
    refine q_iconst (v := 0) hG rfl rfl ?_
    refine q_iret0 hG rfl rfl ?_
    exact p
  · refine q_astoreJ_n hG rfl rfl ?_
    refine q_iconst (v := 1) hG rfl rfl ?_
    refine q_iret0 hG rfl rfl ?_
    exact p
theorem s_L_isBroken {d : Nat} {B : HP} {I : IM} {Post : Out → HP → Prop} {a : Int} (hx : hK B 0 = (18, 0)) (h : ∀ P : Out → HP → Prop, (∀ (B2 : HP) (J : IM), hK B2 184 = (2, 1) → Post (.inl (some (.int (i3 0)))) (wI (sJ B2 184 0 1) J) → P (.inl (some (.int (i3 1)))) (wI B2 J)) → (∀ (B2 : HP) (J : IM), hK B2 184 = (2, 1) → Post (.inl (some (.int (i3 0)))) (wI (sJ B2 184 0 0) J) → P (.inl (some (.int (i3 0)))) (wI B2 J)) → (∀ (B2 : HP) (J : IM), Post (.inl (some (.int (i3 1)))) (wI B2 J) → P (.inr 3) (wI B2 J)) → Sp d k_X8_isBroken [.ref 0, .int (i3 (a))] (wI B I) P) : Sp (d + 1) k_L_isBroken [.ref 0, .int (i3 (a)), .ref 184] (wI B I) Post := by
  refine Sp_intro md_L_isBroken rfl rfl (fun G hG => ?_)
  show G 0 [some (.ref 0), some (.int (i3 (a))), some (.ref 184), none] [] (wI B I)
  refine q_aload_n hG rfl rfl ?_
  refine q_iconst (v := 0) hG rfl rfl ?_
  refine q_aload_n hG rfl rfl ?_
  refine q_iload_n hG rfl rfl ?_
  refine q_callV6 hG rfl rfl rfl hx (h _ (fun B2 J hk p => ?_) (fun B2 J hk p => ?_) (fun B2 J p => ?_))
  · refine q_if_eq hG rfl ⟨by omega, by omega⟩ (fun q => absurd q (by decide)) (fun _ => ?_)
    refine q_lconst1 hG rfl ?_
    refine q_goto hG rfl ?_
    refine q_last hG rfl hk ⟨by omega, by omega, by omega⟩ ?_
    refine q_goto hG rfl ?_
    refine q_iconst (v := 0) hG rfl rfl ?_
    refine q_iret0 hG rfl rfl ?_
    exact p
  · refine q_if_eq hG rfl ⟨by omega, by omega⟩ (fun _ => ?_) (fun q => absurd (by decide) q)
    refine q_lconst0 hG rfl ?_
    refine q_last hG rfl hk ⟨by omega, by omega, by omega⟩ ?_
    refine q_goto hG rfl ?_
    refine q_iconst (v := 0) hG rfl rfl ?_
    refine q_iret0 hG rfl rfl ?_
    exact p
  · refine q_astoreJ_n hG rfl rfl ?_
    refine q_iconst (v := 1) hG rfl rfl ?_
    refine q_iret0 hG rfl rfl ?_
    exact p
theorem s_L_isFixed {d : Nat} {B : HP} {I : IM} {Post : Out → HP → Prop} {a : Int} (hx : hK B 0 = (18, 0)) (h : ∀ P : Out → HP → Prop, (∀ (B2 : HP) (J : IM), hK B2 184 = (2, 1) → Post (.inl (some (.int (i3 0)))) (wI (sJ B2 184 0 1) J) → P (.inl (some (.int (i3 1)))) (wI B2 J)) → (∀ (B2 : HP) (J : IM), hK B2 184 = (2, 1) → Post (.inl (some (.int (i3 0)))) (wI (sJ B2 184 0 0) J) → P (.inl (some (.int (i3 0)))) (wI B2 J)) → (∀ (B2 : HP) (J : IM), Post (.inl (some (.int (i3 1)))) (wI B2 J) → P (.inr 2) (wI B2 J)) → Sp d k_X8_isFixed [.ref 0, .int (i3 (a))] (wI B I) P) : Sp (d + 1) k_L_isFixed [.ref 0, .int (i3 (a)), .ref 184] (wI B I) Post := by
  refine Sp_intro md_L_isFixed rfl rfl (fun G hG => ?_)
  show G 0 [some (.ref 0), some (.int (i3 (a))), some (.ref 184), none] [] (wI B I)
  refine q_aload_n hG rfl rfl ?_
  refine q_iconst (v := 0) hG rfl rfl ?_
  refine q_aload_n hG rfl rfl ?_
  refine q_iload_n hG rfl rfl ?_
  refine q_callV6 hG rfl rfl rfl hx (h _ (fun B2 J hk p => ?_) (fun B2 J hk p => ?_) (fun B2 J p => ?_))
  · refine q_if_eq hG rfl ⟨by omega, by omega⟩ (fun q => absurd q (by decide)) (fun _ => ?_)
    refine q_lconst1 hG rfl ?_
    refine q_goto hG rfl ?_
    refine q_last hG rfl hk ⟨by omega, by omega, by omega⟩ ?_
    refine q_goto hG rfl ?_
    refine q_iconst (v := 0) hG rfl rfl ?_
    refine q_iret0 hG rfl rfl ?_
    exact p
  · refine q_if_eq hG rfl ⟨by omega, by omega⟩ (fun _ => ?_) (fun q => absurd (by decide) q)
    refine q_lconst0 hG rfl ?_
    refine q_last hG rfl hk ⟨by omega, by omega, by omega⟩ ?_
    refine q_goto hG rfl ?_
    refine q_iconst (v := 0) hG rfl rfl ?_
    refine q_iret0 hG rfl rfl ?_
    exact p
  · refine q_astoreJ_n hG rfl rfl ?_
    refine q_iconst (v := 1) hG rfl rfl ?_
    refine q_iret0 hG rfl rfl ?_
    exact p
theorem s_L_isSafe {d : Nat} {B : HP} {I : IM} {Post : Out → HP → Prop} {a : Int} (hx : hK B 0 = (18, 0)) (h : ∀ P : Out → HP → Prop, (∀ (B2 : HP) (J : IM), hK B2 184 = (2, 1) → Post (.inl (some (.int (i3 0)))) (wI (sJ B2 184 0 1) J) → P (.inl (some (.int (i3 1)))) (wI B2 J)) → (∀ (B2 : HP) (J : IM), hK B2 184 = (2, 1) → Post (.inl (some (.int (i3 0)))) (wI (sJ B2 184 0 0) J) → P (.inl (some (.int (i3 0)))) (wI B2 J)) → (∀ (B2 : HP) (J : IM), Post (.inl (some (.int (i3 1)))) (wI B2 J) → P (.inr 3) (wI B2 J)) → Sp d k_X8_isSafe [.ref 0, .int (i3 (a))] (wI B I) P) : Sp (d + 1) k_L_isSafe [.ref 0, .int (i3 (a)), .ref 184] (wI B I) Post := by
  refine Sp_intro md_L_isSafe rfl rfl (fun G hG => ?_)
  show G 0 [some (.ref 0), some (.int (i3 (a))), some (.ref 184), none] [] (wI B I)
  refine q_aload_n hG rfl rfl ?_
  refine q_iconst (v := 0) hG rfl rfl ?_
  refine q_aload_n hG rfl rfl ?_
  refine q_iload_n hG rfl rfl ?_
  refine q_callV6 hG rfl rfl rfl hx (h _ (fun B2 J hk p => ?_) (fun B2 J hk p => ?_) (fun B2 J p => ?_))
  · refine q_if_eq hG rfl ⟨by omega, by omega⟩ (fun q => absurd q (by decide)) (fun _ => ?_)
    refine q_lconst1 hG rfl ?_
    refine q_goto hG rfl ?_
    refine q_last hG rfl hk ⟨by omega, by omega, by omega⟩ ?_
    refine q_goto hG rfl ?_
    refine q_iconst (v := 0) hG rfl rfl ?_
    refine q_iret0 hG rfl rfl ?_
    exact p
  · refine q_if_eq hG rfl ⟨by omega, by omega⟩ (fun _ => ?_) (fun q => absurd (by decide) q)
    refine q_lconst0 hG rfl ?_
    refine q_last hG rfl hk ⟨by omega, by omega, by omega⟩ ?_
    refine q_goto hG rfl ?_
    refine q_iconst (v := 0) hG rfl rfl ?_
    refine q_iret0 hG rfl rfl ?_
    exact p
  · refine q_astoreJ_n hG rfl rfl ?_
    refine q_iconst (v := 1) hG rfl rfl ?_
    refine q_iret0 hG rfl rfl ?_
    exact p
theorem s_L_kindOf {d : Nat} {B : HP} {I : IM} {Post : Out → HP → Prop} {a : Int} (hx : hK B 0 = (18, 0)) (h : ∀ P : Out → HP → Prop, (∀ (v : Int) (B2 : HP) (J : IM), hK B2 184 = (2, 1) → Post (.inl (some (.int (i3 0)))) (wI (sJ B2 184 0 (i3 v).toInt64) J) → P (.inl (some (.int (i3 v)))) (wI B2 J)) → (∀ (B2 : HP) (J : IM), Post (.inl (some (.int (i3 1)))) (wI B2 J) → P (.inr 3) (wI B2 J)) → Sp d k_X8_kindOf [.ref 0, .int (i3 (a))] (wI B I) P) : Sp (d + 1) k_L_kindOf [.ref 0, .int (i3 (a)), .ref 184] (wI B I) Post := by
  refine Sp_intro md_L_kindOf rfl rfl (fun G hG => ?_)
  show G 0 [some (.ref 0), some (.int (i3 (a))), some (.ref 184), none] [] (wI B I)
  refine q_aload_n hG rfl rfl ?_
  refine q_iconst (v := 0) hG rfl rfl ?_
  refine q_aload_n hG rfl rfl ?_
  refine q_iload_n hG rfl rfl ?_
  refine q_callV6 hG rfl rfl rfl hx (h _ (fun v B2 J hk p => ?_) (fun B2 J p => ?_))
  · refine q_i2l hG rfl ?_
    refine q_last hG rfl hk ⟨by omega, by omega, by omega⟩ ?_
    refine q_goto hG rfl ?_
    refine q_iconst (v := 0) hG rfl rfl ?_
    refine q_iret0 hG rfl rfl ?_
    exact p
  · refine q_astoreJ_n hG rfl rfl ?_
    refine q_iconst (v := 1) hG rfl rfl ?_
    refine q_iret0 hG rfl rfl ?_
    exact p
theorem s_L_lowOf {d : Nat} {B : HP} {I : IM} {Post : Out → HP → Prop} {a : Int} (hx : hK B 0 = (18, 0)) (h : ∀ P : Out → HP → Prop, (∀ (v : Int) (B2 : HP) (J : IM), hK B2 184 = (2, 1) → Post (.inl (some (.int (i3 0)))) (wI (sJ B2 184 0 (i3 v).toInt64) J) → P (.inl (some (.int (i3 v)))) (wI B2 J)) → (∀ (B2 : HP) (J : IM), Post (.inl (some (.int (i3 1)))) (wI B2 J) → P (.inr 2) (wI B2 J)) → Sp d k_X8_lowOf [.ref 0, .int (i3 (a))] (wI B I) P) : Sp (d + 1) k_L_lowOf [.ref 0, .int (i3 (a)), .ref 184] (wI B I) Post := by
  refine Sp_intro md_L_lowOf rfl rfl (fun G hG => ?_)
  show G 0 [some (.ref 0), some (.int (i3 (a))), some (.ref 184), none] [] (wI B I)
  refine q_aload_n hG rfl rfl ?_
  refine q_iconst (v := 0) hG rfl rfl ?_
  refine q_aload_n hG rfl rfl ?_
  refine q_iload_n hG rfl rfl ?_
  refine q_callV6 hG rfl rfl rfl hx (h _ (fun v B2 J hk p => ?_) (fun B2 J p => ?_))
  · refine q_i2l hG rfl ?_
    refine q_last hG rfl hk ⟨by omega, by omega, by omega⟩ ?_
    refine q_goto hG rfl ?_
    refine q_iconst (v := 0) hG rfl rfl ?_
    refine q_iret0 hG rfl rfl ?_
    exact p
  · refine q_astoreJ_n hG rfl rfl ?_
    refine q_iconst (v := 1) hG rfl rfl ?_
    refine q_iret0 hG rfl rfl ?_
    exact p
theorem s_L_lowestHeight {d : Nat} {B : HP} {I : IM} {Post : Out → HP → Prop} {a : Int} (hx : hK B 0 = (18, 0)) (h : ∀ P : Out → HP → Prop, (∀ (v : Int) (B2 : HP) (J : IM), hK B2 184 = (2, 1) → Post (.inl (some (.int (i3 0)))) (wI (sJ B2 184 0 (i3 v).toInt64) J) → P (.inl (some (.int (i3 v)))) (wI B2 J)) → (∀ (B2 : HP) (J : IM), Post (.inl (some (.int (i3 1)))) (wI B2 J) → P (.inr 2) (wI B2 J)) → (∀ (B2 : HP) (J : IM), Post (.inl (some (.int (i3 2)))) (wI B2 J) → P (.inr 3) (wI B2 J)) → Sp d k_X8_lowestHeight [.ref 0, .int (i3 (a))] (wI B I) P) : Sp (d + 1) k_L_lowestHeight [.ref 0, .int (i3 (a)), .ref 184] (wI B I) Post := by
  refine Sp_intro md_L_lowestHeight rfl rfl (fun G hG => ?_)
  show G 0 [some (.ref 0), some (.int (i3 (a))), some (.ref 184), none] [] (wI B I)
  refine q_aload_n hG rfl rfl ?_
  refine q_iconst (v := 0) hG rfl rfl ?_
  refine q_aload_n hG rfl rfl ?_
  refine q_iload_n hG rfl rfl ?_
  refine q_callV6 hG rfl rfl rfl hx (h _ (fun v B2 J hk p => ?_) (fun B2 J p => ?_) (fun B2 J p => ?_))
  · refine q_i2l hG rfl ?_
    refine q_last hG rfl hk ⟨by omega, by omega, by omega⟩ ?_
    refine q_goto hG rfl ?_
    refine q_iconst (v := 0) hG rfl rfl ?_
    refine q_iret0 hG rfl rfl ?_
    exact p
  · refine q_astoreJ_n hG rfl rfl ?_
    refine q_iconst (v := 1) hG rfl rfl ?_
    refine q_iret0 hG rfl rfl ?_
    exact p
  · refine q_astoreJ_n hG rfl rfl ?_
    refine q_iconst (v := 2) hG rfl rfl ?_
    refine q_iret0 hG rfl rfl ?_
    exact p
theorem s_L_lowestHeightByPaths {d : Nat} {B : HP} {I : IM} {Post : Out → HP → Prop} {a : Int} (hx : hK B 0 = (18, 0)) (h : ∀ P : Out → HP → Prop, (∀ (v : Int) (B2 : HP) (J : IM), hK B2 184 = (2, 1) → Post (.inl (some (.int (i3 0)))) (wI (sJ B2 184 0 (i3 v).toInt64) J) → P (.inl (some (.int (i3 v)))) (wI B2 J)) → (∀ (B2 : HP) (J : IM), Post (.inl (some (.int (i3 1)))) (wI B2 J) → P (.inr 2) (wI B2 J)) → (∀ (B2 : HP) (J : IM), Post (.inl (some (.int (i3 2)))) (wI B2 J) → P (.inr 3) (wI B2 J)) → Sp d k_X8_lowestHeightByPaths [.ref 0, .int (i3 (a))] (wI B I) P) : Sp (d + 1) k_L_lowestHeightByPaths [.ref 0, .int (i3 (a)), .ref 184] (wI B I) Post := by
  refine Sp_intro md_L_lowestHeightByPaths rfl rfl (fun G hG => ?_)
  show G 0 [some (.ref 0), some (.int (i3 (a))), some (.ref 184), none] [] (wI B I)
  refine q_aload_n hG rfl rfl ?_
  refine q_iconst (v := 0) hG rfl rfl ?_
  refine q_aload_n hG rfl rfl ?_
  refine q_iload_n hG rfl rfl ?_
  refine q_callV6 hG rfl rfl rfl hx (h _ (fun v B2 J hk p => ?_) (fun B2 J p => ?_) (fun B2 J p => ?_))
  · refine q_i2l hG rfl ?_
    refine q_last hG rfl hk ⟨by omega, by omega, by omega⟩ ?_
    refine q_goto hG rfl ?_
    refine q_iconst (v := 0) hG rfl rfl ?_
    refine q_iret0 hG rfl rfl ?_
    exact p
  · refine q_astoreJ_n hG rfl rfl ?_
    refine q_iconst (v := 1) hG rfl rfl ?_
    refine q_iret0 hG rfl rfl ?_
    exact p
  · refine q_astoreJ_n hG rfl rfl ?_
    refine q_iconst (v := 2) hG rfl rfl ?_
    refine q_iret0 hG rfl rfl ?_
    exact p
theorem s_L_meanWidth {d : Nat} {B : HP} {I : IM} {Post : Out → HP → Prop} (hx : hK B 0 = (18, 0)) (h : ∀ P : Out → HP → Prop, (∀ (v : UInt64) (B2 : HP) (J : IM), hK B2 185 = (5, 1) → Post (.inl (some (.int (i3 0)))) (wI (sU B2 185 0 v) J) → P (.inl (some (.double v))) (wI B2 J)) → (∀ (B2 : HP) (J : IM), Post (.inl (some (.int (i3 1)))) (wI B2 J) → P (.inr 5) (wI B2 J)) → Sp d k_X8_meanWidth [.ref 0] (wI B I) P) : Sp (d + 1) k_L_meanWidth [.ref 0, .ref 185] (wI B I) Post := by
  refine Sp_intro md_L_meanWidth rfl rfl (fun G hG => ?_)
  show G 0 [some (.ref 0), some (.ref 185), none] [] (wI B I)
  refine q_aload_n hG rfl rfl ?_
  refine q_iconst (v := 0) hG rfl rfl ?_
  refine q_aload_n hG rfl rfl ?_
  refine q_callV6 hG rfl rfl rfl hx (h _ (fun v B2 J hk p => ?_) (fun B2 J p => ?_))
  · refine q_dast hG rfl hk ⟨by omega, by omega, by omega⟩ ?_
    refine q_goto hG rfl ?_
    refine q_iconst (v := 0) hG rfl rfl ?_
    refine q_iret0 hG rfl rfl ?_
    exact p
  · refine q_astoreJ_n hG rfl rfl ?_
    refine q_iconst (v := 1) hG rfl rfl ?_
    refine q_iret0 hG rfl rfl ?_
    exact p
theorem s_L_narrow {d : Nat} {B : HP} {I : IM} {Post : Out → HP → Prop} {a b e : Int} (hx : hK B 0 = (18, 0)) (h : ∀ P : Out → HP → Prop, (∀ (v : Int) (B2 : HP) (J : IM), hK B2 184 = (2, 1) → Post (.inl (some (.int (i3 0)))) (wI (sJ B2 184 0 (i3 v).toInt64) J) → P (.inl (some (.int (i3 v)))) (wI B2 J)) → (∀ (B2 : HP) (J : IM), Post (.inl (some (.int (i3 1)))) (wI B2 J) → P (.inr 2) (wI B2 J)) → (∀ (B2 : HP) (J : IM), Post (.inl (some (.int (i3 2)))) (wI B2 J) → P (.inr 0) (wI B2 J)) → (∀ (B2 : HP) (J : IM), Post (.inl (some (.int (i3 3)))) (wI B2 J) → P (.inr 1) (wI B2 J)) → Sp d k_X8_narrow [.ref 0, .int (i3 (a)), .int (i3 (b)), .int (i3 (e))] (wI B I) P) : Sp (d + 1) k_L_narrow [.ref 0, .int (i3 (a)), .int (i3 (b)), .int (i3 (e)), .ref 184] (wI B I) Post := by
  refine Sp_intro md_L_narrow rfl rfl (fun G hG => ?_)
  show G 0 [some (.ref 0), some (.int (i3 (a))), some (.int (i3 (b))), some (.int (i3 (e))), some (.ref 184), none] [] (wI B I)
  refine q_aload hG rfl rfl ?_
  refine q_iconst (v := 0) hG rfl rfl ?_
  refine q_aload_n hG rfl rfl ?_
  refine q_iload_n hG rfl rfl ?_
  refine q_iload_n hG rfl rfl ?_
  refine q_iload_n hG rfl rfl ?_
  refine q_callV6 hG rfl rfl rfl hx (h _ (fun v B2 J hk p => ?_) (fun B2 J p => ?_) (fun B2 J p => ?_) (fun B2 J p => ?_))
  · refine q_i2l hG rfl ?_
    refine q_last hG rfl hk ⟨by omega, by omega, by omega⟩ ?_
    refine q_goto hG rfl ?_
    refine q_iconst (v := 0) hG rfl rfl ?_
    refine q_iret0 hG rfl rfl ?_
    exact p
  · refine q_astoreJ hG rfl rfl ?_
    refine q_iconst (v := 1) hG rfl rfl ?_
    refine q_iret0 hG rfl rfl ?_
    exact p
  · refine q_astoreJ hG rfl rfl ?_
    refine q_iconst (v := 2) hG rfl rfl ?_
    refine q_iret0 hG rfl rfl ?_
    exact p
  · refine q_astoreJ hG rfl rfl ?_
    refine q_iconst (v := 3) hG rfl rfl ?_
    refine q_iret0 hG rfl rfl ?_
    exact p
theorem s_L_outputAt {d : Nat} {B : HP} {I : IM} {Post : Out → HP → Prop} {a : Int} (hx : hK B 0 = (18, 0)) (h : ∀ P : Out → HP → Prop, (∀ (v : Int) (B2 : HP) (J : IM), hK B2 184 = (2, 1) → Post (.inl (some (.int (i3 0)))) (wI (sJ B2 184 0 (i3 v).toInt64) J) → P (.inl (some (.int (i3 v)))) (wI B2 J)) → (∀ (B2 : HP) (J : IM), Post (.inl (some (.int (i3 1)))) (wI B2 J) → P (.inr 2) (wI B2 J)) → Sp d k_X8_outputAt [.ref 0, .int (i3 (a))] (wI B I) P) : Sp (d + 1) k_L_outputAt [.ref 0, .int (i3 (a)), .ref 184] (wI B I) Post := by
  refine Sp_intro md_L_outputAt rfl rfl (fun G hG => ?_)
  show G 0 [some (.ref 0), some (.int (i3 (a))), some (.ref 184), none] [] (wI B I)
  refine q_aload_n hG rfl rfl ?_
  refine q_iconst (v := 0) hG rfl rfl ?_
  refine q_aload_n hG rfl rfl ?_
  refine q_iload_n hG rfl rfl ?_
  refine q_callV6 hG rfl rfl rfl hx (h _ (fun v B2 J hk p => ?_) (fun B2 J p => ?_))
  · refine q_i2l hG rfl ?_
    refine q_last hG rfl hk ⟨by omega, by omega, by omega⟩ ?_
    refine q_goto hG rfl ?_
    refine q_iconst (v := 0) hG rfl rfl ?_
    refine q_iret0 hG rfl rfl ?_
    exact p
  · refine q_astoreJ_n hG rfl rfl ?_
    refine q_iconst (v := 1) hG rfl rfl ?_
    refine q_iret0 hG rfl rfl ?_
    exact p
theorem s_L_pass {d : Nat} {B : HP} {I : IM} {Post : Out → HP → Prop} (hx : hK B 0 = (18, 0)) (h : ∀ P : Out → HP → Prop, (∀ (v : Int) (B2 : HP) (J : IM), hK B2 184 = (2, 1) → Post (.inl (some (.int (i3 0)))) (wI (sJ B2 184 0 (i3 v).toInt64) J) → P (.inl (some (.int (i3 v)))) (wI B2 J)) → (∀ (B2 : HP) (J : IM), Post (.inl (some (.int (i3 1)))) (wI B2 J) → P (.inr 1) (wI B2 J)) → Sp d k_X8_pass [.ref 0] (wI B I) P) : Sp (d + 1) k_L_pass [.ref 0, .ref 184] (wI B I) Post := by
  refine Sp_intro md_L_pass rfl rfl (fun G hG => ?_)
  show G 0 [some (.ref 0), some (.ref 184), none] [] (wI B I)
  refine q_aload_n hG rfl rfl ?_
  refine q_iconst (v := 0) hG rfl rfl ?_
  refine q_aload_n hG rfl rfl ?_
  refine q_callV6 hG rfl rfl rfl hx (h _ (fun v B2 J hk p => ?_) (fun B2 J p => ?_))
  · refine q_i2l hG rfl ?_
    refine q_last hG rfl hk ⟨by omega, by omega, by omega⟩ ?_
    refine q_goto hG rfl ?_
    refine q_iconst (v := 0) hG rfl rfl ?_
    refine q_iret0 hG rfl rfl ?_
    exact p
  · refine q_astoreJ_n hG rfl rfl ?_
    refine q_iconst (v := 1) hG rfl rfl ?_
    refine q_iret0 hG rfl rfl ?_
    exact p
theorem s_L_peaceHeight {d : Nat} {B : HP} {I : IM} {Post : Out → HP → Prop} {a : Int} (hx : hK B 0 = (18, 0)) (h : ∀ P : Out → HP → Prop, (∀ (v : Int) (B2 : HP) (J : IM), hK B2 184 = (2, 1) → Post (.inl (some (.int (i3 0)))) (wI (sJ B2 184 0 (i3 v).toInt64) J) → P (.inl (some (.int (i3 v)))) (wI B2 J)) → (∀ (B2 : HP) (J : IM), Post (.inl (some (.int (i3 1)))) (wI B2 J) → P (.inr 2) (wI B2 J)) → (∀ (B2 : HP) (J : IM), Post (.inl (some (.int (i3 2)))) (wI B2 J) → P (.inr 3) (wI B2 J)) → Sp d k_X8_peaceHeight [.ref 0, .int (i3 (a))] (wI B I) P) : Sp (d + 1) k_L_peaceHeight [.ref 0, .int (i3 (a)), .ref 184] (wI B I) Post := by
  refine Sp_intro md_L_peaceHeight rfl rfl (fun G hG => ?_)
  show G 0 [some (.ref 0), some (.int (i3 (a))), some (.ref 184), none] [] (wI B I)
  refine q_aload_n hG rfl rfl ?_
  refine q_iconst (v := 0) hG rfl rfl ?_
  refine q_aload_n hG rfl rfl ?_
  refine q_iload_n hG rfl rfl ?_
  refine q_callV6 hG rfl rfl rfl hx (h _ (fun v B2 J hk p => ?_) (fun B2 J p => ?_) (fun B2 J p => ?_))
  · refine q_i2l hG rfl ?_
    refine q_last hG rfl hk ⟨by omega, by omega, by omega⟩ ?_
    refine q_goto hG rfl ?_
    refine q_iconst (v := 0) hG rfl rfl ?_
    refine q_iret0 hG rfl rfl ?_
    exact p
  · refine q_astoreJ_n hG rfl rfl ?_
    refine q_iconst (v := 1) hG rfl rfl ?_
    refine q_iret0 hG rfl rfl ?_
    exact p
  · refine q_astoreJ_n hG rfl rfl ?_
    refine q_iconst (v := 2) hG rfl rfl ?_
    refine q_iret0 hG rfl rfl ?_
    exact p
theorem s_L_peaceSum {d : Nat} {B : HP} {I : IM} {Post : Out → HP → Prop} (hx : hK B 0 = (18, 0)) (h : ∀ P : Out → HP → Prop, (∀ (v : Int) (B2 : HP) (J : IM), hK B2 184 = (2, 1) → Post (.inl (some (.int (i3 0)))) (wI (sJ B2 184 0 (i3 v).toInt64) J) → P (.inl (some (.int (i3 v)))) (wI B2 J)) → (∀ (B2 : HP) (J : IM), Post (.inl (some (.int (i3 1)))) (wI B2 J) → P (.inr 3) (wI B2 J)) → Sp d k_X8_peaceSum [.ref 0] (wI B I) P) : Sp (d + 1) k_L_peaceSum [.ref 0, .ref 184] (wI B I) Post := by
  refine Sp_intro md_L_peaceSum rfl rfl (fun G hG => ?_)
  show G 0 [some (.ref 0), some (.ref 184), none] [] (wI B I)
  refine q_aload_n hG rfl rfl ?_
  refine q_iconst (v := 0) hG rfl rfl ?_
  refine q_aload_n hG rfl rfl ?_
  refine q_callV6 hG rfl rfl rfl hx (h _ (fun v B2 J hk p => ?_) (fun B2 J p => ?_))
  · refine q_i2l hG rfl ?_
    refine q_last hG rfl hk ⟨by omega, by omega, by omega⟩ ?_
    refine q_goto hG rfl ?_
    refine q_iconst (v := 0) hG rfl rfl ?_
    refine q_iret0 hG rfl rfl ?_
    exact p
  · refine q_astoreJ_n hG rfl rfl ?_
    refine q_iconst (v := 1) hG rfl rfl ?_
    refine q_iret0 hG rfl rfl ?_
    exact p
theorem s_L_rejectionDetail {d : Nat} {B : HP} {I : IM} {Post : Out → HP → Prop} (hx : hK B 0 = (18, 0)) (h : ∀ P : Out → HP → Prop, (∀ (v : Int) (B2 : HP) (J : IM), hK B2 184 = (2, 1) → Post (.inl (some (.int (i3 0)))) (wI (sJ B2 184 0 (i3 v).toInt64) J) → P (.inl (some (.int (i3 v)))) (wI B2 J)) → (∀ (B2 : HP) (J : IM), Post (.inl (some (.int (i3 1)))) (wI B2 J) → P (.inr 3) (wI B2 J)) → Sp d k_X8_rejectionDetail [.ref 0] (wI B I) P) : Sp (d + 1) k_L_rejectionDetail [.ref 0, .ref 184] (wI B I) Post := by
  refine Sp_intro md_L_rejectionDetail rfl rfl (fun G hG => ?_)
  show G 0 [some (.ref 0), some (.ref 184), none] [] (wI B I)
  refine q_aload_n hG rfl rfl ?_
  refine q_iconst (v := 0) hG rfl rfl ?_
  refine q_aload_n hG rfl rfl ?_
  refine q_callV6 hG rfl rfl rfl hx (h _ (fun v B2 J hk p => ?_) (fun B2 J p => ?_))
  · refine q_i2l hG rfl ?_
    refine q_last hG rfl hk ⟨by omega, by omega, by omega⟩ ?_
    refine q_goto hG rfl ?_
    refine q_iconst (v := 0) hG rfl rfl ?_
    refine q_iret0 hG rfl rfl ?_
    exact p
  · refine q_astoreJ_n hG rfl rfl ?_
    refine q_iconst (v := 1) hG rfl rfl ?_
    refine q_iret0 hG rfl rfl ?_
    exact p
theorem s_L_rejectionReason {d : Nat} {B : HP} {I : IM} {Post : Out → HP → Prop} (hx : hK B 0 = (18, 0)) (h : ∀ P : Out → HP → Prop, (∀ (v : Int) (B2 : HP) (J : IM), hK B2 184 = (2, 1) → Post (.inl (some (.int (i3 0)))) (wI (sJ B2 184 0 (i3 v).toInt64) J) → P (.inl (some (.int (i3 v)))) (wI B2 J)) → (∀ (B2 : HP) (J : IM), Post (.inl (some (.int (i3 1)))) (wI B2 J) → P (.inr 3) (wI B2 J)) → Sp d k_X8_rejectionReason [.ref 0] (wI B I) P) : Sp (d + 1) k_L_rejectionReason [.ref 0, .ref 184] (wI B I) Post := by
  refine Sp_intro md_L_rejectionReason rfl rfl (fun G hG => ?_)
  show G 0 [some (.ref 0), some (.ref 184), none] [] (wI B I)
  refine q_aload_n hG rfl rfl ?_
  refine q_iconst (v := 0) hG rfl rfl ?_
  refine q_aload_n hG rfl rfl ?_
  refine q_callV6 hG rfl rfl rfl hx (h _ (fun v B2 J hk p => ?_) (fun B2 J p => ?_))
  · refine q_i2l hG rfl ?_
    refine q_last hG rfl hk ⟨by omega, by omega, by omega⟩ ?_
    refine q_goto hG rfl ?_
    refine q_iconst (v := 0) hG rfl rfl ?_
    refine q_iret0 hG rfl rfl ?_
    exact p
  · refine q_astoreJ_n hG rfl rfl ?_
    refine q_iconst (v := 1) hG rfl rfl ?_
    refine q_iret0 hG rfl rfl ?_
    exact p
theorem s_L_removeConstraint {d : Nat} {B : HP} {I : IM} {Post : Out → HP → Prop} {a : Int} (hx : hK B 0 = (18, 0)) (h : ∀ P : Out → HP → Prop, (∀ (v : Int) (B2 : HP) (J : IM), hK B2 184 = (2, 1) → Post (.inl (some (.int (i3 0)))) (wI (sJ B2 184 0 (i3 v).toInt64) J) → P (.inl (some (.int (i3 v)))) (wI B2 J)) → (∀ (B2 : HP) (J : IM), Post (.inl (some (.int (i3 1)))) (wI B2 J) → P (.inr 3) (wI B2 J)) → Sp d k_X8_removeConstraint [.ref 0, .int (i3 (a))] (wI B I) P) : Sp (d + 1) k_L_removeConstraint [.ref 0, .int (i3 (a)), .ref 184] (wI B I) Post := by
  refine Sp_intro md_L_removeConstraint rfl rfl (fun G hG => ?_)
  show G 0 [some (.ref 0), some (.int (i3 (a))), some (.ref 184), none] [] (wI B I)
  refine q_aload_n hG rfl rfl ?_
  refine q_iconst (v := 0) hG rfl rfl ?_
  refine q_aload_n hG rfl rfl ?_
  refine q_iload_n hG rfl rfl ?_
  refine q_callV6 hG rfl rfl rfl hx (h _ (fun v B2 J hk p => ?_) (fun B2 J p => ?_))
  · refine q_i2l hG rfl ?_
    refine q_last hG rfl hk ⟨by omega, by omega, by omega⟩ ?_
    refine q_goto hG rfl ?_
    refine q_iconst (v := 0) hG rfl rfl ?_
    refine q_iret0 hG rfl rfl ?_
    exact p
  · refine q_astoreJ_n hG rfl rfl ?_
    refine q_iconst (v := 1) hG rfl rfl ?_
    refine q_iret0 hG rfl rfl ?_
    exact p
theorem s_L_restoreSnapshot {d : Nat} {B : HP} {I : IM} {Post : Out → HP → Prop} (hx : hK B 0 = (18, 0)) (h : ∀ P : Out → HP → Prop, (∀ (v : Int) (B2 : HP) (J : IM), hK B2 184 = (2, 1) → Post (.inl (some (.int (i3 0)))) (wI (sJ B2 184 0 (i3 v).toInt64) J) → P (.inl (some (.int (i3 v)))) (wI B2 J)) → (∀ (B2 : HP) (J : IM), Post (.inl (some (.int (i3 1)))) (wI B2 J) → P (.inr 4) (wI B2 J)) → Sp d k_X8_restoreSnapshot [.ref 0] (wI B I) P) : Sp (d + 1) k_L_restoreSnapshot [.ref 0, .ref 184] (wI B I) Post := by
  refine Sp_intro md_L_restoreSnapshot rfl rfl (fun G hG => ?_)
  show G 0 [some (.ref 0), some (.ref 184), none] [] (wI B I)
  refine q_aload_n hG rfl rfl ?_
  refine q_iconst (v := 0) hG rfl rfl ?_
  refine q_aload_n hG rfl rfl ?_
  refine q_callV6 hG rfl rfl rfl hx (h _ (fun v B2 J hk p => ?_) (fun B2 J p => ?_))
  · refine q_i2l hG rfl ?_
    refine q_last hG rfl hk ⟨by omega, by omega, by omega⟩ ?_
    refine q_goto hG rfl ?_
    refine q_iconst (v := 0) hG rfl rfl ?_
    refine q_iret0 hG rfl rfl ?_
    exact p
  · refine q_astoreJ_n hG rfl rfl ?_
    refine q_iconst (v := 1) hG rfl rfl ?_
    refine q_iret0 hG rfl rfl ?_
    exact p
theorem s_L_secondOf {d : Nat} {B : HP} {I : IM} {Post : Out → HP → Prop} {a : Int} (hx : hK B 0 = (18, 0)) (h : ∀ P : Out → HP → Prop, (∀ (v : Int) (B2 : HP) (J : IM), hK B2 184 = (2, 1) → Post (.inl (some (.int (i3 0)))) (wI (sJ B2 184 0 (i3 v).toInt64) J) → P (.inl (some (.int (i3 v)))) (wI B2 J)) → (∀ (B2 : HP) (J : IM), Post (.inl (some (.int (i3 1)))) (wI B2 J) → P (.inr 3) (wI B2 J)) → Sp d k_X8_secondOf [.ref 0, .int (i3 (a))] (wI B I) P) : Sp (d + 1) k_L_secondOf [.ref 0, .int (i3 (a)), .ref 184] (wI B I) Post := by
  refine Sp_intro md_L_secondOf rfl rfl (fun G hG => ?_)
  show G 0 [some (.ref 0), some (.int (i3 (a))), some (.ref 184), none] [] (wI B I)
  refine q_aload_n hG rfl rfl ?_
  refine q_iconst (v := 0) hG rfl rfl ?_
  refine q_aload_n hG rfl rfl ?_
  refine q_iload_n hG rfl rfl ?_
  refine q_callV6 hG rfl rfl rfl hx (h _ (fun v B2 J hk p => ?_) (fun B2 J p => ?_))
  · refine q_i2l hG rfl ?_
    refine q_last hG rfl hk ⟨by omega, by omega, by omega⟩ ?_
    refine q_goto hG rfl ?_
    refine q_iconst (v := 0) hG rfl rfl ?_
    refine q_iret0 hG rfl rfl ?_
    exact p
  · refine q_astoreJ_n hG rfl rfl ?_
    refine q_iconst (v := 1) hG rfl rfl ?_
    refine q_iret0 hG rfl rfl ?_
    exact p
theorem s_L_setFrame {d : Nat} {B : HP} {I : IM} {Post : Out → HP → Prop} {a b e : Int} (hx : hK B 0 = (18, 0)) (h : ∀ P : Out → HP → Prop, (∀ (v : Int) (B2 : HP) (J : IM), hK B2 184 = (2, 1) → Post (.inl (some (.int (i3 0)))) (wI (sJ B2 184 0 (i3 v).toInt64) J) → P (.inl (some (.int (i3 v)))) (wI B2 J)) → (∀ (B2 : HP) (J : IM), Post (.inl (some (.int (i3 1)))) (wI B2 J) → P (.inr 2) (wI B2 J)) → (∀ (B2 : HP) (J : IM), Post (.inl (some (.int (i3 2)))) (wI B2 J) → P (.inr 0) (wI B2 J)) → Sp d k_X8_setFrame [.ref 0, .int (i3 (a)), .int (i3 (b)), .int (i3 (e))] (wI B I) P) : Sp (d + 1) k_L_setFrame [.ref 0, .int (i3 (a)), .int (i3 (b)), .int (i3 (e)), .ref 184] (wI B I) Post := by
  refine Sp_intro md_L_setFrame rfl rfl (fun G hG => ?_)
  show G 0 [some (.ref 0), some (.int (i3 (a))), some (.int (i3 (b))), some (.int (i3 (e))), some (.ref 184), none] [] (wI B I)
  refine q_aload hG rfl rfl ?_
  refine q_iconst (v := 0) hG rfl rfl ?_
  refine q_aload_n hG rfl rfl ?_
  refine q_iload_n hG rfl rfl ?_
  refine q_iload_n hG rfl rfl ?_
  refine q_iload_n hG rfl rfl ?_
  refine q_callV6 hG rfl rfl rfl hx (h _ (fun v B2 J hk p => ?_) (fun B2 J p => ?_) (fun B2 J p => ?_))
  · refine q_i2l hG rfl ?_
    refine q_last hG rfl hk ⟨by omega, by omega, by omega⟩ ?_
    refine q_goto hG rfl ?_
    refine q_iconst (v := 0) hG rfl rfl ?_
    refine q_iret0 hG rfl rfl ?_
    exact p
  · refine q_astoreJ hG rfl rfl ?_
    refine q_iconst (v := 1) hG rfl rfl ?_
    refine q_iret0 hG rfl rfl ?_
    exact p
  · refine q_astoreJ hG rfl rfl ?_
    refine q_iconst (v := 2) hG rfl rfl ?_
    refine q_iret0 hG rfl rfl ?_
    exact p
theorem s_L_settle {d : Nat} {B : HP} {I : IM} {Post : Out → HP → Prop} (hx : hK B 0 = (18, 0)) (h : ∀ P : Out → HP → Prop, (∀ (v : Int) (B2 : HP) (J : IM), hK B2 184 = (2, 1) → Post (.inl (some (.int (i3 0)))) (wI (sJ B2 184 0 (i3 v).toInt64) J) → P (.inl (some (.int (i3 v)))) (wI B2 J)) → (∀ (B2 : HP) (J : IM), Post (.inl (some (.int (i3 1)))) (wI B2 J) → P (.inr 1) (wI B2 J)) → Sp d k_X8_settle [.ref 0] (wI B I) P) : Sp (d + 1) k_L_settle [.ref 0, .ref 184] (wI B I) Post := by
  refine Sp_intro md_L_settle rfl rfl (fun G hG => ?_)
  show G 0 [some (.ref 0), some (.ref 184), none] [] (wI B I)
  refine q_aload_n hG rfl rfl ?_
  refine q_iconst (v := 0) hG rfl rfl ?_
  refine q_aload_n hG rfl rfl ?_
  refine q_callV6 hG rfl rfl rfl hx (h _ (fun v B2 J hk p => ?_) (fun B2 J p => ?_))
  · refine q_i2l hG rfl ?_
    refine q_last hG rfl hk ⟨by omega, by omega, by omega⟩ ?_
    refine q_goto hG rfl ?_
    refine q_iconst (v := 0) hG rfl rfl ?_
    refine q_iret0 hG rfl rfl ?_
    exact p
  · refine q_astoreJ_n hG rfl rfl ?_
    refine q_iconst (v := 1) hG rfl rfl ?_
    refine q_iret0 hG rfl rfl ?_
    exact p
theorem s_L_syntaxErrorOffset {d : Nat} {B : HP} {I : IM} {Post : Out → HP → Prop} (hx : hK B 0 = (18, 0)) (h : ∀ P : Out → HP → Prop, (∀ (v : Int) (B2 : HP) (J : IM), hK B2 184 = (2, 1) → Post (.inl (some (.int (i3 0)))) (wI (sJ B2 184 0 (i3 v).toInt64) J) → P (.inl (some (.int (i3 v)))) (wI B2 J)) → (∀ (B2 : HP) (J : IM), Post (.inl (some (.int (i3 1)))) (wI B2 J) → P (.inr 3) (wI B2 J)) → Sp d k_X8_syntaxErrorOffset [.ref 0] (wI B I) P) : Sp (d + 1) k_L_syntaxErrorOffset [.ref 0, .ref 184] (wI B I) Post := by
  refine Sp_intro md_L_syntaxErrorOffset rfl rfl (fun G hG => ?_)
  show G 0 [some (.ref 0), some (.ref 184), none] [] (wI B I)
  refine q_aload_n hG rfl rfl ?_
  refine q_iconst (v := 0) hG rfl rfl ?_
  refine q_aload_n hG rfl rfl ?_
  refine q_callV6 hG rfl rfl rfl hx (h _ (fun v B2 J hk p => ?_) (fun B2 J p => ?_))
  · refine q_i2l hG rfl ?_
    refine q_last hG rfl hk ⟨by omega, by omega, by omega⟩ ?_
    refine q_goto hG rfl ?_
    refine q_iconst (v := 0) hG rfl rfl ?_
    refine q_iret0 hG rfl rfl ?_
    exact p
  · refine q_astoreJ_n hG rfl rfl ?_
    refine q_iconst (v := 1) hG rfl rfl ?_
    refine q_iret0 hG rfl rfl ?_
    exact p
theorem s_L_undo {d : Nat} {B : HP} {I : IM} {Post : Out → HP → Prop} (hx : hK B 0 = (18, 0)) (h : ∀ P : Out → HP → Prop, (∀ (v : Int) (B2 : HP) (J : IM), hK B2 184 = (2, 1) → Post (.inl (some (.int (i3 0)))) (wI (sJ B2 184 0 (i3 v).toInt64) J) → P (.inl (some (.int (i3 v)))) (wI B2 J)) → (∀ (B2 : HP) (J : IM), Post (.inl (some (.int (i3 1)))) (wI B2 J) → P (.inr 4) (wI B2 J)) → Sp d k_X8_undo [.ref 0] (wI B I) P) : Sp (d + 1) k_L_undo [.ref 0, .ref 184] (wI B I) Post := by
  refine Sp_intro md_L_undo rfl rfl (fun G hG => ?_)
  show G 0 [some (.ref 0), some (.ref 184), none] [] (wI B I)
  refine q_aload_n hG rfl rfl ?_
  refine q_iconst (v := 0) hG rfl rfl ?_
  refine q_aload_n hG rfl rfl ?_
  refine q_callV6 hG rfl rfl rfl hx (h _ (fun v B2 J hk p => ?_) (fun B2 J p => ?_))
  · refine q_i2l hG rfl ?_
    refine q_last hG rfl hk ⟨by omega, by omega, by omega⟩ ?_
    refine q_goto hG rfl ?_
    refine q_iconst (v := 0) hG rfl rfl ?_
    refine q_iret0 hG rfl rfl ?_
    exact p
  · refine q_astoreJ_n hG rfl rfl ?_
    refine q_iconst (v := 1) hG rfl rfl ?_
    refine q_iret0 hG rfl rfl ?_
    exact p
theorem s_L_widthOf {d : Nat} {B : HP} {I : IM} {Post : Out → HP → Prop} {a : Int} (hx : hK B 0 = (18, 0)) (h : ∀ P : Out → HP → Prop, (∀ (v : Int) (B2 : HP) (J : IM), hK B2 184 = (2, 1) → Post (.inl (some (.int (i3 0)))) (wI (sJ B2 184 0 (i3 v).toInt64) J) → P (.inl (some (.int (i3 v)))) (wI B2 J)) → (∀ (B2 : HP) (J : IM), Post (.inl (some (.int (i3 1)))) (wI B2 J) → P (.inr 2) (wI B2 J)) → Sp d k_X8_widthOf [.ref 0, .int (i3 (a))] (wI B I) P) : Sp (d + 1) k_L_widthOf [.ref 0, .int (i3 (a)), .ref 184] (wI B I) Post := by
  refine Sp_intro md_L_widthOf rfl rfl (fun G hG => ?_)
  show G 0 [some (.ref 0), some (.int (i3 (a))), some (.ref 184), none] [] (wI B I)
  refine q_aload_n hG rfl rfl ?_
  refine q_iconst (v := 0) hG rfl rfl ?_
  refine q_aload_n hG rfl rfl ?_
  refine q_iload_n hG rfl rfl ?_
  refine q_callV6 hG rfl rfl rfl hx (h _ (fun v B2 J hk p => ?_) (fun B2 J p => ?_))
  · refine q_i2l hG rfl ?_
    refine q_last hG rfl hk ⟨by omega, by omega, by omega⟩ ?_
    refine q_goto hG rfl ?_
    refine q_iconst (v := 0) hG rfl rfl ?_
    refine q_iret0 hG rfl rfl ?_
    exact p
  · refine q_astoreJ_n hG rfl rfl ?_
    refine q_iconst (v := 1) hG rfl rfl ?_
    refine q_iret0 hG rfl rfl ?_
    exact p
theorem s_L_wouldChange {d : Nat} {B : HP} {I : IM} {Post : Out → HP → Prop} (hx : hK B 0 = (18, 0)) (h : ∀ P : Out → HP → Prop, (∀ (v : Int) (B2 : HP) (J : IM), hK B2 184 = (2, 1) → Post (.inl (some (.int (i3 0)))) (wI (sJ B2 184 0 (i3 v).toInt64) J) → P (.inl (some (.int (i3 v)))) (wI B2 J)) → (∀ (B2 : HP) (J : IM), Post (.inl (some (.int (i3 1)))) (wI B2 J) → P (.inr 3) (wI B2 J)) → Sp d k_X8_wouldChange [.ref 0] (wI B I) P) : Sp (d + 1) k_L_wouldChange [.ref 0, .ref 184] (wI B I) Post := by
  refine Sp_intro md_L_wouldChange rfl rfl (fun G hG => ?_)
  show G 0 [some (.ref 0), some (.ref 184), none] [] (wI B I)
  refine q_aload_n hG rfl rfl ?_
  refine q_iconst (v := 0) hG rfl rfl ?_
  refine q_aload_n hG rfl rfl ?_
  refine q_callV6 hG rfl rfl rfl hx (h _ (fun v B2 J hk p => ?_) (fun B2 J p => ?_))
  · refine q_i2l hG rfl ?_
    refine q_last hG rfl hk ⟨by omega, by omega, by omega⟩ ?_
    refine q_goto hG rfl ?_
    refine q_iconst (v := 0) hG rfl rfl ?_
    refine q_iret0 hG rfl rfl ?_
    exact p
  · refine q_astoreJ_n hG rfl rfl ?_
    refine q_iconst (v := 1) hG rfl rfl ?_
    refine q_iret0 hG rfl rfl ?_
    exact p
theorem s_L_writeConstraint {d : Nat} {B : HP} {I : IM} {Post : Out → HP → Prop} {a : Int} (hx : hK B 0 = (18, 0)) (h : ∀ P : Out → HP → Prop, (∀ (v : Int) (B2 : HP) (J : IM), hK B2 184 = (2, 1) → Post (.inl (some (.int (i3 0)))) (wI (sJ B2 184 0 (i3 v).toInt64) J) → P (.inl (some (.int (i3 v)))) (wI B2 J)) → (∀ (B2 : HP) (J : IM), Post (.inl (some (.int (i3 1)))) (wI B2 J) → P (.inr 3) (wI B2 J)) → Sp d k_X8_writeConstraint [.ref 0, .int (i3 (a))] (wI B I) P) : Sp (d + 1) k_L_writeConstraint [.ref 0, .int (i3 (a)), .ref 184] (wI B I) Post := by
  refine Sp_intro md_L_writeConstraint rfl rfl (fun G hG => ?_)
  show G 0 [some (.ref 0), some (.int (i3 (a))), some (.ref 184), none] [] (wI B I)
  refine q_aload_n hG rfl rfl ?_
  refine q_iconst (v := 0) hG rfl rfl ?_
  refine q_aload_n hG rfl rfl ?_
  refine q_iload_n hG rfl rfl ?_
  refine q_callV6 hG rfl rfl rfl hx (h _ (fun v B2 J hk p => ?_) (fun B2 J p => ?_))
  · refine q_i2l hG rfl ?_
    refine q_last hG rfl hk ⟨by omega, by omega, by omega⟩ ?_
    refine q_goto hG rfl ?_
    refine q_iconst (v := 0) hG rfl rfl ?_
    refine q_iret0 hG rfl rfl ?_
    exact p
  · refine q_astoreJ_n hG rfl rfl ?_
    refine q_iconst (v := 1) hG rfl rfl ?_
    refine q_iret0 hG rfl rfl ?_
    exact p
theorem s_L_writeDoor {d : Nat} {B : HP} {I : IM} {Post : Out → HP → Prop} {a : Int} (hx : hK B 0 = (18, 0)) (h : ∀ P : Out → HP → Prop, (∀ (v : Int) (B2 : HP) (J : IM), hK B2 184 = (2, 1) → Post (.inl (some (.int (i3 0)))) (wI (sJ B2 184 0 (i3 v).toInt64) J) → P (.inl (some (.int (i3 v)))) (wI B2 J)) → (∀ (B2 : HP) (J : IM), Post (.inl (some (.int (i3 1)))) (wI B2 J) → P (.inr 2) (wI B2 J)) → Sp d k_X8_writeDoor [.ref 0, .int (i3 (a))] (wI B I) P) : Sp (d + 1) k_L_writeDoor [.ref 0, .int (i3 (a)), .ref 184] (wI B I) Post := by
  refine Sp_intro md_L_writeDoor rfl rfl (fun G hG => ?_)
  show G 0 [some (.ref 0), some (.int (i3 (a))), some (.ref 184), none] [] (wI B I)
  refine q_aload_n hG rfl rfl ?_
  refine q_iconst (v := 0) hG rfl rfl ?_
  refine q_aload_n hG rfl rfl ?_
  refine q_iload_n hG rfl rfl ?_
  refine q_callV6 hG rfl rfl rfl hx (h _ (fun v B2 J hk p => ?_) (fun B2 J p => ?_))
  · refine q_i2l hG rfl ?_
    refine q_last hG rfl hk ⟨by omega, by omega, by omega⟩ ?_
    refine q_goto hG rfl ?_
    refine q_iconst (v := 0) hG rfl rfl ?_
    refine q_iret0 hG rfl rfl ?_
    exact p
  · refine q_astoreJ_n hG rfl rfl ?_
    refine q_iconst (v := 1) hG rfl rfl ?_
    refine q_iret0 hG rfl rfl ?_
    exact p
