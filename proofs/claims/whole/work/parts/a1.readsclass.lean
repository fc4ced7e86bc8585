/-! the class reads commands -/
/-- the script that is read: its text and the place -/
def rdS (B : HP) (I : IM) (v n : Nat) (l : List Int) (p : Nat) : Prop := oS B 161 v n ∧ sbT I 161 v l ∧ l.length ≤ n ∧ (v = 162 ∨ 186 ≤ v) ∧ l.length ≤ 60 ∧ I 160 1 = (p : Int) ∧ p ≤ 61
/-- rows of the script alone change: the place, and commands from i on -/
def sfrC (I J : IM) (i : Nat) : Prop := (∀ a, a ≠ 160 → a ≠ 163 → a ≠ 164 → a ≠ 166 + i → J a = I a) ∧ (∀ k, k ≠ 1 → J 160 k = I 160 k) ∧ (∀ k, k ≠ i → J 163 k = I 163 k) ∧ ∀ k, k ≠ i → J 164 k = I 164 k
theorem sfrC.refl (I : IM) (i : Nat) : sfrC I I i := ⟨fun _ _ _ _ _ => rfl, fun _ _ => rfl, fun _ _ => rfl, fun _ _ => rfl⟩
theorem sfrC.trans {I J K : IM} {i : Nat} (h : sfrC I J i) (h2 : sfrC J K i) : sfrC I K i := ⟨fun a p q r s => (h2.1 a p q r s).trans (h.1 a p q r s), fun k p => (h2.2.1 k p).trans (h.2.1 k p), fun k p => (h2.2.2.1 k p).trans (h.2.2.1 k p), fun k p => (h2.2.2.2 k p).trans (h.2.2.2 k p)⟩
/-- the place alone changes -/
def sfp (I J : IM) : Prop := (∀ a, a ≠ 160 → J a = I a) ∧ ∀ k, k ≠ 1 → J 160 k = I 160 k
theorem sfp.refl (I : IM) : sfp I I := ⟨fun _ _ => rfl, fun _ _ => rfl⟩
theorem sfp.trans {I J K : IM} (h : sfp I J) (h2 : sfp J K) : sfp I K := ⟨fun a p => (h2.1 a p).trans (h.1 a p), fun k p => (h2.2 k p).trans (h.2 k p)⟩
theorem sfp.c {I J : IM} (h : sfp I J) (i : Nat) : sfrC I J i := ⟨fun a p _ _ _ => h.1 a p, h.2, fun k _ => by rw [h.1 163 (by decide)], fun k _ => by rw [h.1 164 (by decide)]⟩
theorem sfp.st {I : IM} {z : Int} : sfp I (st I 160 1 z) := ⟨fun a p => st_row _ _ p, fun k p => st_ne _ _ (fun z => p z.2)⟩
theorem rdS.mv {B : HP} {I J : IM} {v n : Nat} {l : List Int} {p p2 : Nat} (h : rdS B I v n l p) (hr : ∀ a, a = 161 ∨ a = 162 ∨ 186 ≤ a → J a = I a) (h1 : J 160 1 = (p2 : Int)) (hp : p2 ≤ 61) : rdS B J v n l p2 := by
  obtain ⟨a, b, c, d, e, -, -⟩ := h
  exact ⟨a, b.row (hr 161 (Or.inl rfl)) (hr v (by omega)), c, d, e, h1, hp⟩
theorem rdS.fp {B : HP} {I J : IM} {v n : Nat} {l : List Int} {p p2 : Nat} (h : rdS B I v n l p) (hf : sfp I J) (h1 : J 160 1 = (p2 : Int)) (hp : p2 ≤ 61) : rdS B J v n l p2 := h.mv (fun a ha => hf.1 a (by omega)) h1 hp
/-- the place and a kind change -/
def kfr (I J : IM) (i : Nat) : Prop := (∀ a, a ≠ 160 → a ≠ 164 → J a = I a) ∧ (∀ k, k ≠ 1 → J 160 k = I 160 k) ∧ ∀ k, k ≠ i → J 164 k = I 164 k
theorem kfr.c {I J : IM} {i : Nat} (h : kfr I J i) : sfrC I J i := ⟨fun a p _ q _ => h.1 a p q, h.2.1, fun k _ => by rw [h.1 163 (by decide) (by decide)], h.2.2⟩
theorem kfr.p {I J K : IM} {i : Nat} (h : kfr I J i) (h2 : sfp J K) : kfr I K i := ⟨fun a p q => (h2.1 a p).trans (h.1 a p q), fun k p => (h2.2 k p).trans (h.2.1 k p), fun k p => by rw [h2.1 164 (by decide)]; exact h.2.2 k p⟩
/-- the sign as the class tells it -/
def sc (l : List Int) (p : Nat) : Int := if p < l.length then l.getD p 0 else 0
theorem sc_sg {l : List Int} (h : chL l) (p : Nat) : 0 ≤ sc l p ∧ sc l p < 128 ∧ (sc l p = sg l p ∨ (sc l p = 0 ∧ sg l p = -1)) := by
  unfold sc sg
  split
  · rename_i q; have := h.at q; omega
  · omega

theorem s_T_signAt {d : Nat} {B : HP} {I : IM} {Post : Out → HP → Prop} (h60 : hK B 160 = (17, 0)) (hrt : hR B 160 0 = some 161) {v n : Nat} {l : List Int} {p : Nat} (hs : rdS B I v n l p) {j : Nat} (hj : j ≤ 100) (hp : Post (.inl (some (.int (i3 (sc l j))))) (wI B I)) : Sp (d + 5) k_X7_signAt [.ref 160, .int (i3 ((j : Int)))] (wI B I) Post := by
  refine Sp_intro md_X7_signAt rfl rfl (fun G hG => ?_)
  have hs0 := hs
  obtain ⟨s1, s2, s3, s4, s5, s6, s7⟩ := hs
  have hk161 := s1.1
  have hch := s2.2.2.2
  show G 0 [some (.ref 160), some (.int (i3 ((j : Int))))] [] (wI B I)
  refine q_iload_n hG rfl rfl ?_
  refine q_aload_n hG rfl rfl ?_
  refine q_getR hG rfl (by assumption) (by assumption) ?_
  refine q_callV6 hG rfl rfl rfl (by assumption) (s_J_len hk161 s2.2.1 ?_)
  refine q_icmp_ge hG rfl ⟨by omega, by omega⟩ ⟨by omega, by omega⟩ (fun hc8 => ?_) (fun hc8 => ?_)
  · refine q_iconst (v := 0) hG rfl rfl ?_
    refine q_iret3 hG rfl rfl (by decide) ?_
    unfold sc at hp
    first
    | (rw [if_pos (by omega)] at hp; exact hp)
    | (rw [if_neg (by omega)] at hp; exact hp)
  · refine q_aload_n hG rfl rfl ?_
    refine q_getR hG rfl (by assumption) (by assumption) ?_
    refine q_iload_n hG rfl rfl ?_
    refine q_callV6 hG rfl rfl rfl (by assumption) (s_J_at s1 s2 (j := (j : Int)) ⟨by omega, by omega⟩ s3 ?_)
    rw [show (j : Int).toNat = j by omega]
    have hcj := hch.at (i := j) (by omega)
    refine q_goto hG rfl ?_
    refine q_iret3 hG rfl rfl (by omega) ?_
    unfold sc at hp
    first
    | (rw [if_pos (by omega)] at hp; exact hp)
    | (rw [if_neg (by omega)] at hp; exact hp)
theorem s_T_sign {d : Nat} {B : HP} {I : IM} {Post : Out → HP → Prop} (h60 : hK B 160 = (17, 0)) (hrt : hR B 160 0 = some 161) {v n : Nat} {l : List Int} {p : Nat} (hs : rdS B I v n l p) {c : Int} (hc : 1 ≤ c ∧ c < 65536) (p1 : sg l p = c → ∀ J : IM, rdS B J v n l (p + 1) → sfp I J → Post (.inl (some (.int (i3 1)))) (wI B J)) (p0 : sg l p ≠ c → Post (.inl (some (.int (i3 0)))) (wI B I)) : Sp (d + 6) k_X7_readSign [.ref 160, .int (i3 (c))] (wI B I) Post := by
  refine Sp_intro md_X7_readSign rfl rfl (fun G hG => ?_)
  have hs0 := hs
  obtain ⟨s1, s2, s3, s4, s5, s6, s7⟩ := hs
  have hk161 := s1.1
  have hch := s2.2.2.2
  show G 0 [some (.ref 160), some (.int (i3 (c)))] [] (wI B I)
  refine q_aload_n hG rfl rfl ?_
  refine q_aload_n hG rfl rfl ?_
  refine q_getI0v (v := (p : Int)) hG rfl (by assumption) (s6) ?_
  refine q_callV6 hG rfl rfl rfl (by assumption) (s_T_signAt h60 hrt hs0 (by omega) ?_)
  have hsc := sc_sg hch p
  refine q_iload_n hG rfl rfl ?_
  refine q_icmp_eq hG rfl ⟨by omega, by omega⟩ ⟨by omega, by omega⟩ (fun hc9 => ?_) (fun hc9 => ?_)
  · refine q_aload_n hG rfl rfl ?_
    refine q_dup hG rfl rfl ?_
    refine q_getI0v (v := (p : Int)) hG rfl (by assumption) (s6) ?_
    refine q_iconst (v := 1) hG rfl rfl ?_
    refine q_iadd hG rfl ?_
    refine q_putI0 hG rfl (by assumption) ?_
    refine q_iconst (v := 1) hG rfl rfl ?_
    refine q_iret5 hG rfl rfl (by decide) ?_
    have hlt := sg_lt (l := l) (p := p) (by omega)
    exact p1 (by omega) _ (hs0.fp sfp.st (by rw [st_same]; omega) (by omega)) sfp.st
  · refine q_iconst (v := 0) hG rfl rfl ?_
    refine q_iret5 hG rfl rfl (by decide) ?_
    exact p0 (by omega)
theorem s_T_digit {d : Nat} {B : HP} {I : IM} {Post : Out → HP → Prop} (h60 : hK B 160 = (17, 0)) (hrt : hR B 160 0 = some 161) {v n : Nat} {l : List Int} {p : Nat} (hs : rdS B I v n l p)  (p1 : dgP (sg l p) → ∀ J : IM, rdS B J v n l (p + 1) → sfp I J → Post (.inl (some (.int (i3 (sg l p - 48))))) (wI B J)) (p0 : ¬ dgP (sg l p) → Post (.inl (some (.int (i3 (-1))))) (wI B I)) : Sp (d + 6) k_X7_readDigit [.ref 160] (wI B I) Post := by
  refine Sp_intro md_X7_readDigit rfl rfl (fun G hG => ?_)
  have hs0 := hs
  obtain ⟨s1, s2, s3, s4, s5, s6, s7⟩ := hs
  have hk161 := s1.1
  have hch := s2.2.2.2
  show G 0 [some (.ref 160), none] [] (wI B I)
  refine q_aload_n hG rfl rfl ?_
  refine q_aload_n hG rfl rfl ?_
  refine q_getI0v (v := (p : Int)) hG rfl (by assumption) (s6) ?_
  refine q_callV6 hG rfl rfl rfl (by assumption) (s_T_signAt h60 hrt hs0 (by omega) ?_)
  have hsc := sc_sg hch p
  refine q_istore_n hG rfl rfl ?_
  refine q_iload_n hG rfl rfl ?_
  refine q_bipush (v := 48) hG rfl rfl ?_
  refine q_icmp_lt hG rfl ⟨by omega, by omega⟩ ⟨by omega, by omega⟩ (fun hc12 => ?_) (fun hc12 => ?_)
  · refine q_iconst (v := -1) hG rfl rfl ?_
    refine q_iret0 hG rfl rfl ?_
    exact p0 (fun z => by unfold dgP at z; omega)
  · refine q_iload_n hG rfl rfl ?_
    refine q_bipush (v := 57) hG rfl rfl ?_
    refine q_icmp_le hG rfl ⟨by omega, by omega⟩ ⟨by omega, by omega⟩ (fun hc18 => ?_) (fun hc18 => ?_)
    · refine q_aload_n hG rfl rfl ?_
      refine q_dup hG rfl rfl ?_
      refine q_getI0v (v := (p : Int)) hG rfl (by assumption) (s6) ?_
      refine q_iconst (v := 1) hG rfl rfl ?_
      refine q_iadd hG rfl ?_
      refine q_putI0 hG rfl (by assumption) ?_
      refine q_iload_n hG rfl rfl ?_
      refine q_bipush (v := 48) hG rfl rfl ?_
      refine q_isub hG rfl ?_
      refine q_iret0 hG rfl rfl ?_
      have hlt := sg_lt (l := l) (p := p) (by omega)
      have e : sg l p = sc l p := by omega
      rw [e] at p1
      exact p1 (by unfold dgP; omega) _ (hs0.fp sfp.st (by rw [st_same]; omega) (by omega)) sfp.st
    · refine q_iconst (v := -1) hG rfl rfl ?_
      refine q_iret0 hG rfl rfl ?_
      exact p0 (fun z => by unfold dgP at z; omega)
theorem s_T_number {d : Nat} {B : HP} {I : IM} {Post : Out → HP → Prop} (h60 : hK B 160 = (17, 0)) (hrt : hR B 160 0 = some 161) {v n : Nat} {l : List Int} {p : Nat} (hs : rdS B I v n l p)  (p2 : dgP (sg l p) → dgP (sg l (p + 1)) → ∀ J : IM, rdS B J v n l (p + 2) → sfp I J → Post (.inl (some (.int (i3 (10 * (sg l p - 48) + (sg l (p + 1) - 48)))))) (wI B J)) (p1 : dgP (sg l p) → ¬ dgP (sg l (p + 1)) → ∀ J : IM, rdS B J v n l (p + 1) → sfp I J → Post (.inl (some (.int (i3 (sg l p - 48))))) (wI B J)) (p0 : ¬ dgP (sg l p) → Post (.inl (some (.int (i3 (-1))))) (wI B I)) : Sp (d + 7) k_X7_readNumber [.ref 160] (wI B I) Post := by
  refine Sp_intro md_X7_readNumber rfl rfl (fun G hG => ?_)
  have hs0 := hs
  obtain ⟨s1, s2, s3, s4, s5, s6, s7⟩ := hs
  have hk161 := s1.1
  have hch := s2.2.2.2
  show G 0 [some (.ref 160), none, none] [] (wI B I)
  refine q_aload_n hG rfl rfl ?_
  refine q_callV6 hG rfl rfl rfl (by assumption) (s_T_digit h60 hrt hs0 (fun d1 J1 r1 f1 => ?_) (fun d1 => ?_))
  · have e1 := d1
    unfold dgP at e1
    refine q_istore_n hG rfl rfl ?_
    refine q_iload_n hG rfl rfl ?_
    refine q_iconst (v := -1) hG rfl rfl ?_
    refine q_icmp_eq hG rfl ⟨by omega, by omega⟩ ⟨by omega, by omega⟩ (fun hc7 => ?_) (fun hc7 => ?_)
    · refine q_iconst (v := -1) hG rfl rfl ?_
      refine q_istore_n hG rfl rfl ?_
      refine q_iload_n hG rfl rfl ?_
      refine q_iconst (v := -1) hG rfl rfl ?_
      refine q_icmp_eq hG rfl ⟨by omega, by omega⟩ ⟨by omega, by omega⟩ (fun _ => ?_) (fun q => absurd (by decide) q)
      refine q_iload_n hG rfl rfl ?_
      refine q_iret0 hG rfl rfl ?_
      first
      | (exfalso; omega)
      | exact p2 d1 d2 J2 r2 (f1.trans f2)
      | exact p1 d1 d2 J1 r1 f1
      | exact p0 d1
    · refine q_aload_n hG rfl rfl ?_
      refine q_callV6 hG rfl rfl rfl (by assumption) (s_T_digit h60 hrt r1 (fun d2 J2 r2 f2 => ?_) (fun d2 => ?_))
      · have e2 := d2
        unfold dgP at e2
        refine q_goto hG rfl ?_
        refine q_istore_n hG rfl rfl ?_
        refine q_iload_n hG rfl rfl ?_
        refine q_iconst (v := -1) hG rfl rfl ?_
        refine q_icmp_eq hG rfl ⟨by omega, by omega⟩ ⟨by omega, by omega⟩ (fun hc21 => ?_) (fun hc21 => ?_)
        · refine q_iload_n hG rfl rfl ?_
          refine q_iret0 hG rfl rfl ?_
          first
          | (exfalso; omega)
          | exact p2 d1 d2 J2 r2 (f1.trans f2)
          | exact p1 d1 d2 J1 r1 f1
          | exact p0 d1
        · refine q_bipush (v := 10) hG rfl rfl ?_
          refine q_iload_n hG rfl rfl ?_
          refine q_imul hG rfl ?_
          refine q_iload_n hG rfl rfl ?_
          refine q_iadd hG rfl ?_
          refine q_goto hG rfl ?_
          refine q_iret0 hG rfl rfl ?_
          first
          | (exfalso; omega)
          | exact p2 d1 d2 J2 r2 (f1.trans f2)
          | exact p1 d1 d2 J1 r1 f1
          | exact p0 d1
      · refine q_goto hG rfl ?_
        refine q_istore_n hG rfl rfl ?_
        refine q_iload_n hG rfl rfl ?_
        refine q_iconst (v := -1) hG rfl rfl ?_
        refine q_icmp_eq hG rfl ⟨by omega, by omega⟩ ⟨by omega, by omega⟩ (fun _ => ?_) (fun q => absurd (by decide) q)
        refine q_iload_n hG rfl rfl ?_
        refine q_iret0 hG rfl rfl ?_
        first
        | (exfalso; omega)
        | exact p2 d1 d2 J2 r2 (f1.trans f2)
        | exact p1 d1 d2 J1 r1 f1
        | exact p0 d1
  · refine q_istore_n hG rfl rfl ?_
    refine q_iload_n hG rfl rfl ?_
    refine q_iconst (v := -1) hG rfl rfl ?_
    refine q_icmp_eq hG rfl ⟨by omega, by omega⟩ ⟨by omega, by omega⟩ (fun _ => ?_) (fun q => absurd (by decide) q)
    refine q_iconst (v := -1) hG rfl rfl ?_
    refine q_istore_n hG rfl rfl ?_
    refine q_iload_n hG rfl rfl ?_
    refine q_iconst (v := -1) hG rfl rfl ?_
    refine q_icmp_eq hG rfl ⟨by omega, by omega⟩ ⟨by omega, by omega⟩ (fun _ => ?_) (fun q => absurd (by decide) q)
    refine q_iload_n hG rfl rfl ?_
    refine q_iret0 hG rfl rfl ?_
    first
    | (exfalso; omega)
    | exact p2 d1 d2 J2 r2 (f1.trans f2)
    | exact p1 d1 d2 J1 r1 f1
    | exact p0 d1
theorem s_T_kind {d : Nat} {B : HP} {I : IM} {Post : Out → HP → Prop} (h60 : hK B 160 = (17, 0)) (hrt : hR B 160 0 = some 161) {v n : Nat} {l : List Int} {p : Nat} (hs : rdS B I v n l p) (hk : hR B 160 4 = some 164) (hk2 : hK B 164 = (3, 12)) {i : Nat} (hi : i < 12) (p1 : (sg l p = 60 ∨ sg l p = 61 ∨ sg l p = 35) → ∀ J : IM, rdS B J v n l (p + 1) → kfr I J i → J 164 i = sg l p → Post (.inl (some (.int (i3 1)))) (wI B J)) (p0 : ¬ (sg l p = 60 ∨ sg l p = 61 ∨ sg l p = 35) → ∀ J : IM, rdS B J v n l p → kfr I J i → Post (.inl (some (.int (i3 0)))) (wI B J)) : Sp (d + 7) k_X7_readKind [.ref 160, .int (i3 ((i : Int)))] (wI B I) Post := by
  refine Sp_intro md_X7_readKind rfl rfl (fun G hG => ?_)
  have hs0 := hs
  obtain ⟨s1, s2, s3, s4, s5, s6, s7⟩ := hs
  have hk161 := s1.1
  have hch := s2.2.2.2
  show G 0 [some (.ref 160), some (.int (i3 ((i : Int)))), none] [] (wI B I)
  refine q_aload_n hG rfl rfl ?_
  refine q_aload_n hG rfl rfl ?_
  refine q_getI0v (v := (p : Int)) hG rfl (by assumption) (s6) ?_
  refine q_callV6 hG rfl rfl rfl (by assumption) (s_T_signAt h60 hrt hs0 (by omega) ?_)
  have hsc := sc_sg hch p
  refine q_istore_n hG rfl rfl ?_
  refine q_aload_n hG rfl rfl ?_
  refine q_getR hG rfl (by assumption) (by assumption) ?_
  refine q_iload_n hG rfl rfl ?_
  refine q_iload_n hG rfl rfl ?_
  refine q_cast hG rfl (by assumption) ⟨by omega, by omega, by omega⟩ ⟨by omega, by omega⟩ ?_
  have ei : (i : Int).toNat = i := by omega
  rw [ei]
  have fK : kfr I (st I 164 i (sc l p)) i := ⟨fun a _ h => st_row _ _ h, fun k _ => by rw [st_row _ _ (by decide)], fun k h => st_ne _ _ (fun z => h z.2)⟩
  have hsK : rdS B (st I 164 i (sc l p)) v n l p := hs0.mv (fun a ha => st_row _ _ (by omega)) (by rw [st_row _ _ (by decide)]; exact s6) s7
  refine q_iload_n hG rfl rfl ?_
  refine q_bipush (v := 60) hG rfl rfl ?_
  refine q_icmp_eq hG rfl ⟨by omega, by omega⟩ ⟨by omega, by omega⟩ (fun hc19 => ?_) (fun hc19 => ?_)
  · refine q_aload_n hG rfl rfl ?_
    refine q_iload_n hG rfl rfl ?_
    refine q_callV6 hG rfl rfl rfl (by assumption) (s_T_sign h60 hrt hsK (by omega) (fun ec J1 r1 f1 => ?_) (fun ec => ?_))
    · refine q_if_eq hG rfl ⟨by omega, by omega⟩ (fun q => absurd q (by decide)) (fun _ => ?_)
      refine q_iconst (v := 1) hG rfl rfl ?_
      refine q_goto hG rfl ?_
      refine q_iret5 hG rfl rfl (by decide) ?_
      refine p1 (by omega) J1 r1 (fK.p f1) ?_
      rw [f1.1 164 (by decide), st_same]
      omega
    · refine q_if_eq hG rfl ⟨by omega, by omega⟩ (fun _ => ?_) (fun q => absurd (by decide) q)
      refine q_iconst (v := 0) hG rfl rfl ?_
      refine q_iret5 hG rfl rfl (by decide) ?_
      first
      | exact p0 (by omega) _ hsK fK
      | (exfalso; omega)
  · refine q_iload_n hG rfl rfl ?_
    refine q_bipush (v := 61) hG rfl rfl ?_
    refine q_icmp_eq hG rfl ⟨by omega, by omega⟩ ⟨by omega, by omega⟩ (fun hc25 => ?_) (fun hc25 => ?_)
    · refine q_aload_n hG rfl rfl ?_
      refine q_iload_n hG rfl rfl ?_
      refine q_callV6 hG rfl rfl rfl (by assumption) (s_T_sign h60 hrt hsK (by omega) (fun ec J1 r1 f1 => ?_) (fun ec => ?_))
      · refine q_if_eq hG rfl ⟨by omega, by omega⟩ (fun q => absurd q (by decide)) (fun _ => ?_)
        refine q_iconst (v := 1) hG rfl rfl ?_
        refine q_goto hG rfl ?_
        refine q_iret5 hG rfl rfl (by decide) ?_
        refine p1 (by omega) J1 r1 (fK.p f1) ?_
        rw [f1.1 164 (by decide), st_same]
        omega
      · refine q_if_eq hG rfl ⟨by omega, by omega⟩ (fun _ => ?_) (fun q => absurd (by decide) q)
        refine q_iconst (v := 0) hG rfl rfl ?_
        refine q_iret5 hG rfl rfl (by decide) ?_
        first
        | exact p0 (by omega) _ hsK fK
        | (exfalso; omega)
    · refine q_iload_n hG rfl rfl ?_
      refine q_bipush (v := 35) hG rfl rfl ?_
      refine q_icmp_ne hG rfl ⟨by omega, by omega⟩ ⟨by omega, by omega⟩ (fun hc31 => ?_) (fun hc31 => ?_)
      · refine q_iconst (v := 0) hG rfl rfl ?_
        refine q_iret5 hG rfl rfl (by decide) ?_
        first
        | exact p0 (by omega) _ hsK fK
        | (exfalso; omega)
      · refine q_aload_n hG rfl rfl ?_
        refine q_iload_n hG rfl rfl ?_
        refine q_callV6 hG rfl rfl rfl (by assumption) (s_T_sign h60 hrt hsK (by omega) (fun ec J1 r1 f1 => ?_) (fun ec => ?_))
        · refine q_if_eq hG rfl ⟨by omega, by omega⟩ (fun q => absurd q (by decide)) (fun _ => ?_)
          refine q_iconst (v := 1) hG rfl rfl ?_
          refine q_goto hG rfl ?_
          refine q_iret5 hG rfl rfl (by decide) ?_
          refine p1 (by omega) J1 r1 (fK.p f1) ?_
          rw [f1.1 164 (by decide), st_same]
          omega
        · refine q_if_eq hG rfl ⟨by omega, by omega⟩ (fun _ => ?_) (fun q => absurd (by decide) q)
          refine q_iconst (v := 0) hG rfl rfl ?_
          refine q_iret5 hG rfl rfl (by decide) ?_
          first
          | exact p0 (by omega) _ hsK fK
          | (exfalso; omega)
