/-! the reference executes the script -/
theorem RepM.eq {I J : IM} {m r : Nat} {R : RW} (h : RepM I m r R) (he : J (m + 1) = I (m + 1)) : RepM J m r R := fun j hj => by rw [he]; exact h j hj
theorem MSt.mv {I J : IM} {m : Nat} {R : RW} {c : Int} {h : Nat → RW} {sv : Int} {SR : RW} {eo why det cau eo2 : Int} (hM : MSt I m R c h sv SR eo why det cau) (he : J (m + 1) = I (m + 1)) (h2 : J m 2 = I m 2) (h3 : J m 3 = I m 3) (h19 : J m 19 = eo2) (h5 : J m 5 = I m 5) (h6 : J m 6 = I m 6) (h7 : J m 7 = I m 7) : MSt J m R c h sv SR eo2 why det cau := by
  obtain ⟨a1, ⟨b1, b2, b3⟩, a3, a4, a5, a6, a7, a8⟩ := hM
  exact ⟨a1.eq he, ⟨by rw [h2]; exact b1, b2, fun j hj => (b3 j hj).eq he⟩, by rw [h3]; exact a3, fun z => (a4 z).eq he, h19, by rw [h5]; exact a6, by rw [h6]; exact a7, by rw [h7]; exact a8⟩
theorem BSt_row {I J : IM} {m : Nat} {c : Int} {Q : RW} (he : ∀ j, 79 ≤ j ∧ j < 869 → J (m + 1) j = I (m + 1) j) (b2 : 0 ≤ c ∧ c ≤ 8) {j : Nat} (hj : (j : Int) < c) {i : Nat} (hi : i < 79) (h : RepM I m (c.toNat - j) Q) : J (m + 1) (79 * (c.toNat - j) + i) = Q i := by
  have e1 : c.toNat - j ≤ 8 := by omega
  have e2 : 1 ≤ c.toNat - j := by omega
  rw [he _ (by omega)]
  exact h i hi
theorem BSt.mv {I J : IM} {m : Nat} {R : RW} {c : Int} {h : Nat → RW} {sv : Int} {SR : RW} {eo why det cau why2 det2 cau2 : Int} (hM : BSt I m R c h sv SR eo why det cau) (he : ∀ j, 79 ≤ j ∧ j < 869 → J (m + 1) j = I (m + 1) j) (h2 : J m 2 = I m 2) (h3 : J m 3 = I m 3) (h19 : J m 19 = I m 19) (h5 : J m 5 = why2) (h6 : J m 6 = det2) (h7 : J m 7 = cau2) : BSt J m R c h sv SR eo why2 det2 cau2 := by
  obtain ⟨a1, ⟨b1, b2, b3⟩, a3, a4, a5, a6, a7, a8⟩ := hM
  exact ⟨fun j hj => by rw [he _ (by omega)]; exact a1 j hj, ⟨by rw [h2]; exact b1, b2, fun j hj i hi => BSt_row he b2 hj hi (b3 j hj)⟩, by rw [h3]; exact a3, fun z i hi => by rw [he _ (by omega)]; exact a4 z i hi, by rw [h19]; exact a5, h5, h6, h7⟩
theorem outF_le {l : List Int} {e : Nat} (h : outF l e) : e ≤ l.length := by
  obtain ⟨n, h1, h2⟩ := h
  have a := cm_le (l := l) (p := cp l n) (rdN_cp h1).2
  rcases h2 with ⟨-, b⟩ | ⟨-, -, -, b⟩ <;> omega
/-- what the execution leaves -/
def mfX (I J : IM) (m : Nat) : Prop := (∀ a, a ≠ m → a ≠ m + 1 → a ≠ m + 5 → J a = I a) ∧ J m 14 = I m 14
theorem mfX.trans {I J K : IM} {m : Nat} (h : mfX I J m) (h2 : mfX J K m) : mfX I K m := ⟨fun a p q r => (h2.1 a p q r).trans (h.1 a p q r), h2.2.trans h.2⟩
theorem mfT.X {I J : IM} {m : Nat} (h : mfT I J m) : mfX I J m := ⟨fun a p q _ => h.1 a p q, h.2 14 (by decide)⟩
theorem mfr.X {I J : IM} {m : Nat} (h : mfr I J m) : mfX I J m := ⟨fun a p q _ => h.1 a p q, h.2.1 14 (by decide) (by decide) (by decide) (by decide) (by decide)⟩
theorem hfM.X {I J : IM} {m : Nat} (h : hfM I J m) : mfX I J m := ⟨fun a p _ q => h.1 a p q, h.2 14 (by decide) (by decide) (by decide)⟩
theorem mfX.st {I : IM} {m k : Nat} {z : Int} (hk : k ≠ 14) : mfX I (st I m k z) m := ⟨fun a p _ _ => st_row _ _ p, st_ne _ _ (by omega)⟩

theorem s_R_execute {d : Nat} {B : HP} {I : IM} {Post : Out → HP → Prop} {m : Nat} (hm : oM B m) {R : RW} {c : Int} {h : Nat → RW} {sv : Int} {SR : RW} {eo why det cau q : Int} (hM : MSt I m R c h sv SR eo why det cau) (hW : WfR q R) (hq : q + 20000 ≤ 2000000000) {l : List Int} (hi : inR I m l)  (pS : ∀ e : Nat, outF l e → ∀ J : IM, MSt J m R c h sv SR (e : Int) why det cau → J m 0 = 1 → J m 16 = 0 → mfX I J m → Post (.inl (some (.int (i3 0)))) (wI B J)) (pK : ∀ (N : Nat) (R2 : RW), outS l N → seqR R l (N + 1) = .inl R2 → ∀ J : IM, MSt J m R2 (c8 c) (psh R h) sv SR eo why det cau → J m 0 = 0 → J m 16 = 0 → mfX I J m → Post (.inl (some (.int (i3 ((N + 1 : Nat) : Int))))) (wI B J)) (pR : ∀ (N d : Nat) (r e : Int), outS l N → d ≤ N → flA R l d (.inl (r, e)) → ∀ J : IM, MSt J m R c h sv SR eo 6 (d : Int) r → J m 0 = 3 → J m 16 = 0 → mfX I J m → Post (.inl (some (.int (i3 0)))) (wI B J)) (pF : ∀ (N d : Nat), outS l N → d ≤ N → flA R l d (.inr ()) → ∀ J : IM, MSt J m R c h sv SR eo why det cau → J m 0 = 2 → J m 16 = 0 → mfX I J m → Post (.inl (some (.int (i3 0)))) (wI B J)) : Sp (d + 11) k_X9_execute [.ref m] (wI B I) Post := by
  refine Sp_intro md_X9_execute rfl rfl (fun G hG => ?_)
  have hm0 := hm
  obtain ⟨n1, n2, n3, n4, n5, n6, n7, n8, n9, n10, n11⟩ := hm
  have hM0 := hM
  have hi0 := hi
  have hl60 := hi.2.2.2
  have lp : ∀ (mz : Nat) (k : Nat) (N : Nat) (J : IM) (R' : RW), N + 1 - k = mz → outS l N → k ≤ N + 1 → N < 12 → seqR R l k = .inl R' → WfR (q + 1000 * k) R' → RepM J m 0 R' → BSt J m R c h sv SR eo why det cau → J m 21 = ((N + 1 : Nat) : Int) → J m 16 = 0 → (∀ j, j ≤ N → mcP J m (4 * j) (vb l (cp l j)).1 (cm l (cp l j))) → mfX I J m → G 39 [some (.ref m), some (.int (i3 (k : Int))), some (.int (i3 0))] [] (wI B J) := by
    intro mz
    induction mz using Nat.strongRecOn with
    | ind mz ih =>
      intro k N J R' hme hS hk hN hseq hWk hRJ hB h21 h16 hcm hX
      refine q_iload_n hG rfl rfl ?_
      refine q_aload_n hG rfl rfl ?_
      refine q_getI0v (v := ((N + 1 : Nat) : Int)) hG rfl (by assumption) (h21) ?_
      refine q_icmp_ge hG rfl ⟨by omega, by omega⟩ ⟨by omega, by omega⟩ (fun hc44 => ?_) (fun hc44 => ?_)
      · refine q_aload_n hG rfl rfl ?_
        refine q_aload_n hG rfl rfl ?_
        refine q_getI0v (v := ((N + 1 : Nat) : Int)) hG rfl (by assumption) (h21) ?_
        refine q_putI0 hG rfl (by assumption) ?_
        refine q_iload_n hG rfl rfl ?_
        refine q_iconst (v := 3) hG rfl rfl ?_
        refine q_icmp_ne hG rfl ⟨by omega, by omega⟩ ⟨by omega, by omega⟩ (fun _ => ?_) (fun q => absurd (by decide) q)
        refine q_aload_n hG rfl rfl ?_
        refine q_iload_n hG rfl rfl ?_
        refine q_if_ne hG rfl ⟨by omega, by omega⟩ (fun q => absurd q (by decide)) (fun _ => ?_)
        refine q_iconst (v := 0) hG rfl rfl ?_
        refine q_goto hG rfl ?_
        have hB5 : BSt (st J m 4 ((N + 1 : Nat) : Int)) m R c h sv SR eo why det cau := hB.mv (fun j hj => by rw [st_row _ _ (by omega)]) (st_ne _ _ (by omega)) (st_ne _ _ (by omega)) (st_ne _ _ (by omega)) ((st_ne _ _ (by omega)).trans hB.2.2.2.2.2.1) ((st_ne _ _ (by omega)).trans hB.2.2.2.2.2.2.1) ((st_ne _ _ (by omega)).trans hB.2.2.2.2.2.2.2)
        have hR5 : RepM (st J m 4 ((N + 1 : Nat) : Int)) m 0 R' := hRJ.eq (st_row _ _ (by omega))
        refine q_callV6 hG rfl rfl rfl (by assumption) (s_R_kept0 hm0 hB5 hR5 (v := ((N + 1 : Nat) : Int)) (st_same _ _ _ _) (fun J6 w1 w2 w3 => ?_))
        refine q_iret0 hG rfl rfl ?_
        exact pK N R' hS (by rw [show N + 1 = k by omega]; exact hseq) J6 w1 w2 (by rw [w3.2 16 (by decide), st_ne _ _ (by omega)]; exact h16) ((hX.trans (mfX.st (by decide))).trans w3.X)
      · refine q_iload_n hG rfl rfl ?_
        refine q_if_ne hG rfl ⟨by omega, by omega⟩ (fun q => absurd q (by decide)) (fun _ => ?_)
        have hkN : k ≤ N := by omega
        have hck : (cm l (cp l k)).1 = true := if y : k = N then by rw [y]; exact hS.2.1 else (hS.1 k (by omega)).1
        obtain ⟨g1, g2⟩ := hcm k hkN
        obtain ⟨ga, gb, gc, gd, ge⟩ := cm_args hck
        refine q_aload_n hG rfl rfl ?_
        refine q_iconst (v := 4) hG rfl rfl ?_
        refine q_iload_n hG rfl rfl ?_
        refine q_imul hG rfl ?_
        rw [show (4 : Int) * (k : Int) = ((4 * k : Nat) : Int) by omega]
        refine q_callV6 hG rfl rfl rfl (by assumption) (s_R_does (q := q + 1000 * k) (t := 4 * k) (c := (cm l (cp l k)).2.2.1.getD 2 0) hm0 hRJ hWk (by omega) (by omega) ga (fun y => (gb y).2) (fun y => (gc y).2) (fun y => (gd y).2) ge g1 (fun y => g2 0 (gb y).1) (fun y => g2 1 (gc y).1) (fun y => g2 2 (gd y).1) (fun R2 e J4 r4 f => ?_) (fun r e0 e J4 e8 e9 f => ?_) (fun e z hz => ?_))
        · refine q_istore_n hG rfl rfl ?_
          refine q_iload_n hG rfl rfl ?_
          refine q_iload_n hG rfl rfl ?_
          refine q_if_ne hG rfl ⟨by omega, by omega⟩ (fun q => absurd q (by decide)) (fun _ => ?_)
          refine q_iconst (v := 1) hG rfl rfl ?_
          refine q_goto hG rfl ?_
          refine q_iadd hG rfl ?_
          refine q_istore_n hG rfl rfl ?_
          refine q_goto hG rfl ?_
          have kk : ∀ y, y ≠ 4 → y ≠ 8 → y ≠ 9 → y ≠ 10 → y ≠ 11 → J4 m y = J m y := f.2.1
          refine ih _ (by omega) (k + 1) N J4 R2 rfl hS (by omega) hN ((seqR_go hseq).trans e) ((outC_W hWk ⟨ga.1, ga.2⟩ e).up (by omega)) r4 (hB.mv (fun j hj => f.2.2 j (Or.inl hj)) (kk 2 (by decide) (by decide) (by decide) (by decide) (by decide)) (kk 3 (by decide) (by decide) (by decide) (by decide) (by decide)) (kk 19 (by decide) (by decide) (by decide) (by decide) (by decide)) ((kk 5 (by decide) (by decide) (by decide) (by decide) (by decide)).trans hB.2.2.2.2.2.1) ((kk 6 (by decide) (by decide) (by decide) (by decide) (by decide)).trans hB.2.2.2.2.2.2.1) ((kk 7 (by decide) (by decide) (by decide) (by decide) (by decide)).trans hB.2.2.2.2.2.2.2)) ((kk 21 (by decide) (by decide) (by decide) (by decide) (by decide)).trans h21) ((kk 16 (by decide) (by decide) (by decide) (by decide) (by decide)).trans h16) (fun j hj => ?_) (hX.trans f.X)
          have e5 : J4 (m + 5) = J (m + 5) := f.1 _ (by omega) (by omega)
          have g := hcm j hj
          exact ⟨by rw [e5]; exact g.1, fun y hy => by rw [e5]; exact g.2 y hy⟩
        · refine q_istore_n hG rfl rfl ?_
          refine q_iload_n hG rfl rfl ?_
          refine q_iload_n hG rfl rfl ?_
          refine q_if_ne hG rfl ⟨by omega, by omega⟩ (fun _ => ?_) (fun q => absurd (by decide) q)
          refine q_iconst (v := 0) hG rfl rfl ?_
          refine q_iadd hG rfl ?_
          refine q_istore_n hG rfl rfl ?_
          refine q_goto hG rfl ?_
          have k21 : J4 m 21 = ((N + 1 : Nat) : Int) := (f.2.1 21 (by decide) (by decide) (by decide) (by decide) (by decide)).trans h21
          have k16 : J4 m 16 = 0 := (f.2.1 16 (by decide) (by decide) (by decide) (by decide) (by decide)).trans h16
          have hB4 : BSt J4 m R c h sv SR eo why det cau := hB.mv (fun j hj => f.2.2 j (Or.inl hj)) (f.2.1 2 (by decide) (by decide) (by decide) (by decide) (by decide)) (f.2.1 3 (by decide) (by decide) (by decide) (by decide) (by decide)) (f.2.1 19 (by decide) (by decide) (by decide) (by decide) (by decide)) ((f.2.1 5 (by decide) (by decide) (by decide) (by decide) (by decide)).trans hB.2.2.2.2.2.1) ((f.2.1 6 (by decide) (by decide) (by decide) (by decide) (by decide)).trans hB.2.2.2.2.2.2.1) ((f.2.1 7 (by decide) (by decide) (by decide) (by decide) (by decide)).trans hB.2.2.2.2.2.2.2)
          refine q_iload_n hG rfl rfl ?_
          refine q_aload_n hG rfl rfl ?_
          refine q_getI0v (v := ((N + 1 : Nat) : Int)) hG rfl (by assumption) (k21) ?_
          refine q_icmp_ge hG rfl ⟨by omega, by omega⟩ ⟨by omega, by omega⟩ (fun hc44 => absurd hc44 (by omega)) (fun hc44 => ?_)
          refine q_iload_n hG rfl rfl ?_
          refine q_if_ne hG rfl ⟨by omega, by omega⟩ (fun _ => ?_) (fun q => absurd (by decide) q)
          refine q_aload_n hG rfl rfl ?_
          refine q_aload_n hG rfl rfl ?_
          refine q_getI0v (v := ((N + 1 : Nat) : Int)) hG rfl (by assumption) (k21) ?_
          refine q_putI0 hG rfl (by assumption) ?_
          refine q_iload_n hG rfl rfl ?_
          refine q_iconst (v := 3) hG rfl rfl ?_
          refine q_icmp_ne hG rfl ⟨by omega, by omega⟩ ⟨by omega, by omega⟩ (fun q => absurd q (by decide)) (fun _ => ?_)
          refine q_aload_n hG rfl rfl ?_
          refine q_bipush (v := 6) hG rfl rfl ?_
          refine q_putI0 hG rfl (by assumption) ?_
          refine q_aload_n hG rfl rfl ?_
          refine q_iload_n hG rfl rfl ?_
          refine q_putI0 hG rfl (by assumption) ?_
          refine q_aload_n hG rfl rfl ?_
          refine q_aload_n hG rfl rfl ?_
          refine q_getI0v (v := r) hG rfl (by assumption) (by rw [st_ne _ _ (by omega), st_ne _ _ (by omega), st_ne _ _ (by omega)]; exact e8) ?_
          refine q_putI0 hG rfl (by assumption) ?_
          refine q_aload_n hG rfl rfl ?_
          refine q_iload_n hG rfl rfl ?_
          refine q_if_ne hG rfl ⟨by omega, by omega⟩ (fun _ => ?_) (fun q => absurd (by decide) q)
          refine q_iload_n hG rfl rfl ?_
          refine q_iconst (v := 3) hG rfl rfl ?_
          refine q_icmp_ne hG rfl ⟨by omega, by omega⟩ ⟨by omega, by omega⟩ (fun q => absurd q (by decide)) (fun _ => ?_)
          refine q_iconst (v := 3) hG rfl rfl ?_
          refine q_goto hG rfl ?_
          have hB5 : BSt (st (st (st (st J4 m 4 ((N + 1 : Nat) : Int)) m 5 6) m 6 ((k : Int) + 0)) m 7 r) m R c h sv SR eo 6 ((k : Int) + 0) r := hB4.mv (fun j hj => by rw [st_row _ _ (by omega), st_row _ _ (by omega), st_row _ _ (by omega), st_row _ _ (by omega)]) (by rw [st_ne _ _ (by omega), st_ne _ _ (by omega), st_ne _ _ (by omega), st_ne _ _ (by omega)]) (by rw [st_ne _ _ (by omega), st_ne _ _ (by omega), st_ne _ _ (by omega), st_ne _ _ (by omega)]) (by rw [st_ne _ _ (by omega), st_ne _ _ (by omega), st_ne _ _ (by omega), st_ne _ _ (by omega)]) (by rw [st_ne _ _ (by omega), st_ne _ _ (by omega), st_same]) (by rw [st_ne _ _ (by omega), st_same]) (st_same _ _ _ _)
          refine q_callV6 hG rfl rfl rfl (by assumption) (s_R_keptN (x := 3) hm0 ⟨by omega, by omega⟩ (by decide) hB5 (fun J6 w1 w2 w3 => ?_))
          refine q_iret0 hG rfl rfl ?_
          refine pR N k r e0 hS (by omega) ⟨R', hseq, e⟩ J6 ?_ w2 ?_ ((((((hX.trans f.X).trans (mfX.st (by decide))).trans (mfX.st (by decide))).trans (mfX.st (by decide))).trans (mfX.st (by decide))).trans w3.X)
          · rw [Int.add_zero] at w1
            exact w1
          · rw [w3.2 16 (by decide), st_ne _ _ (by omega), st_ne _ _ (by omega), st_ne _ _ (by omega), st_ne _ _ (by omega)]
            exact k16
        · refine q_istore_n hG rfl rfl ?_
          refine q_iload_n hG rfl rfl ?_
          refine q_iload_n hG rfl rfl ?_
          refine q_if_ne hG rfl ⟨by omega, by omega⟩ (fun hc61 => ?_) (fun hc61 => ?_)
          · refine q_iconst (v := 0) hG rfl rfl ?_
            refine q_iadd hG rfl ?_
            refine q_istore_n hG rfl rfl ?_
            refine q_goto hG rfl ?_
            have k21 := h21
            refine q_iload_n hG rfl rfl ?_
            refine q_aload_n hG rfl rfl ?_
            refine q_getI0v (v := ((N + 1 : Nat) : Int)) hG rfl (by assumption) (k21) ?_
            refine q_icmp_ge hG rfl ⟨by omega, by omega⟩ ⟨by omega, by omega⟩ (fun hc44 => absurd hc44 (by omega)) (fun hc44 => ?_)
            refine q_iload_n hG rfl rfl ?_
            refine q_if_ne hG rfl ⟨by omega, by omega⟩ (fun hc48 => ?_) (fun hc48 => absurd (by omega) hc48)
            refine q_aload_n hG rfl rfl ?_
            refine q_aload_n hG rfl rfl ?_
            refine q_getI0v (v := ((N + 1 : Nat) : Int)) hG rfl (by assumption) (k21) ?_
            refine q_putI0 hG rfl (by assumption) ?_
            refine q_iload_n hG rfl rfl ?_
            refine q_iconst (v := 3) hG rfl rfl ?_
            refine q_icmp_ne hG rfl ⟨by omega, by omega⟩ ⟨by omega, by omega⟩ (fun hc84 => ?_) (fun hc84 => absurd (by omega) hc84)
            refine q_aload_n hG rfl rfl ?_
            refine q_iload_n hG rfl rfl ?_
            refine q_if_ne hG rfl ⟨by omega, by omega⟩ (fun hc108 => ?_) (fun hc108 => absurd (by omega) hc108)
            refine q_iload_n hG rfl rfl ?_
            refine q_iconst (v := 3) hG rfl rfl ?_
            refine q_icmp_ne hG rfl ⟨by omega, by omega⟩ ⟨by omega, by omega⟩ (fun hc117 => ?_) (fun hc117 => absurd (by omega) hc117)
            refine q_iconst (v := 2) hG rfl rfl ?_
            have hB5 : BSt (st J m 4 ((N + 1 : Nat) : Int)) m R c h sv SR eo why det cau := hB.mv (fun j hj => by rw [st_row _ _ (by omega)]) (st_ne _ _ (by omega)) (st_ne _ _ (by omega)) (st_ne _ _ (by omega)) ((st_ne _ _ (by omega)).trans hB.2.2.2.2.2.1) ((st_ne _ _ (by omega)).trans hB.2.2.2.2.2.2.1) ((st_ne _ _ (by omega)).trans hB.2.2.2.2.2.2.2)
            refine q_callV6 hG rfl rfl rfl (by assumption) (s_R_keptN (x := 2) hm0 ⟨by omega, by omega⟩ (by decide) hB5 (fun J6 w1 w2 w3 => ?_))
            refine q_iret0 hG rfl rfl ?_
            refine pF N k hS (by omega) ⟨R', hseq, e⟩ J6 w1 w2 ?_ ((hX.trans (mfX.st (by decide))).trans w3.X)
            rw [w3.2 16 (by decide), st_ne _ _ (by omega)]
            exact h16
          · refine q_iconst (v := 1) hG rfl rfl ?_
            refine q_goto hG rfl ?_
            refine q_iadd hG rfl ?_
            refine q_istore_n hG rfl rfl ?_
            refine q_goto hG rfl ?_
            have k21 := h21
            refine q_iload_n hG rfl rfl ?_
            refine q_aload_n hG rfl rfl ?_
            refine q_getI0v (v := ((N + 1 : Nat) : Int)) hG rfl (by assumption) (k21) ?_
            refine q_icmp_ge hG rfl ⟨by omega, by omega⟩ ⟨by omega, by omega⟩ (fun hc44 => absurd hc44 (by omega)) (fun hc44 => ?_)
            refine q_iload_n hG rfl rfl ?_
            refine q_if_ne hG rfl ⟨by omega, by omega⟩ (fun hc48 => ?_) (fun hc48 => absurd (by omega) hc48)
            refine q_aload_n hG rfl rfl ?_
            refine q_aload_n hG rfl rfl ?_
            refine q_getI0v (v := ((N + 1 : Nat) : Int)) hG rfl (by assumption) (k21) ?_
            refine q_putI0 hG rfl (by assumption) ?_
            refine q_iload_n hG rfl rfl ?_
            refine q_iconst (v := 3) hG rfl rfl ?_
            refine q_icmp_ne hG rfl ⟨by omega, by omega⟩ ⟨by omega, by omega⟩ (fun hc84 => ?_) (fun hc84 => absurd (by omega) hc84)
            refine q_aload_n hG rfl rfl ?_
            refine q_iload_n hG rfl rfl ?_
            refine q_if_ne hG rfl ⟨by omega, by omega⟩ (fun hc108 => ?_) (fun hc108 => absurd (by omega) hc108)
            refine q_iload_n hG rfl rfl ?_
            refine q_iconst (v := 3) hG rfl rfl ?_
            refine q_icmp_ne hG rfl ⟨by omega, by omega⟩ ⟨by omega, by omega⟩ (fun hc117 => ?_) (fun hc117 => absurd (by omega) hc117)
            refine q_iconst (v := 2) hG rfl rfl ?_
            have hB5 : BSt (st J m 4 ((N + 1 : Nat) : Int)) m R c h sv SR eo why det cau := hB.mv (fun j hj => by rw [st_row _ _ (by omega)]) (st_ne _ _ (by omega)) (st_ne _ _ (by omega)) (st_ne _ _ (by omega)) ((st_ne _ _ (by omega)).trans hB.2.2.2.2.2.1) ((st_ne _ _ (by omega)).trans hB.2.2.2.2.2.2.1) ((st_ne _ _ (by omega)).trans hB.2.2.2.2.2.2.2)
            refine q_callV6 hG rfl rfl rfl (by assumption) (s_R_keptN (x := 2) hm0 ⟨by omega, by omega⟩ (by decide) hB5 (fun J6 w1 w2 w3 => ?_))
            refine q_iret0 hG rfl rfl ?_
            refine pF N k hS (by omega) ⟨R', hseq, e⟩ J6 w1 w2 ?_ ((hX.trans (mfX.st (by decide))).trans w3.X)
            rw [w3.2 16 (by decide), st_ne _ _ (by omega)]
            exact h16
  show G 0 [some (.ref m), none, none] [] (wI B I)
  refine q_aload_n hG rfl rfl ?_
  refine q_callV6 hG rfl rfl rfl (by assumption) (s_R_parse hm0 hi0 (fun N hS J1 j18 j21 jc f1 => ?_) (fun e he J1 j18 f1 => ?_))
  · have hM1 : ∀ eo2, J1 m 19 = eo2 → MSt J1 m R c h sv SR eo2 why det cau := fun eo2 h9 => hM0.mv (f1.1 _ (by omega) (by omega)) (f1.2 2 (by decide) (by decide) (by decide)) (f1.2 3 (by decide) (by decide) (by decide)) h9 (f1.2 5 (by decide) (by decide) (by decide)) (f1.2 6 (by decide) (by decide) (by decide)) (f1.2 7 (by decide) (by decide) (by decide))
    have h19 : J1 m 19 = eo := (f1.2 19 (by decide) (by decide) (by decide)).trans hM0.2.2.2.2.1
    refine q_aload_n hG rfl rfl ?_
    refine q_iconst (v := 0) hG rfl rfl ?_
    refine q_putI0 hG rfl (by assumption) ?_
    refine q_aload_n hG rfl rfl ?_
    refine q_getI0v (v := -1) hG rfl (by assumption) (by rw [st_ne _ _ (by omega)]; exact j18) ?_
    refine q_if_lt hG rfl ⟨by omega, by omega⟩ (fun _ => ?_) (fun q => absurd (by decide) q)
    refine q_aload_n hG rfl rfl ?_
    refine q_callV6 hG rfl rfl rfl (by assumption) (s_R_begins hm0 (I := st J1 m 16 0) ((hM1 eo h19).mv (st_row _ _ (by omega)) (st_ne _ _ (by omega)) (st_ne _ _ (by omega)) ((st_ne _ _ (by omega)).trans h19) (st_ne _ _ (by omega)) (st_ne _ _ (by omega)) (st_ne _ _ (by omega))) (fun J2 b1 b2 b3 b4 => ?_))
    refine q_iconst (v := 0) hG rfl rfl ?_
    refine q_istore_n hG rfl rfl ?_
    refine q_iconst (v := 0) hG rfl rfl ?_
    refine q_istore_n hG rfl rfl ?_
    refine lp _ 0 N J2 R rfl hS (by omega) (by have := rdN_cp hS.1; have := cm_ok hS.2.1; omega) rfl (hW.up (by omega)) b2 b1 ?_ ?_ (fun j hj => ?_) (((hfM.X f1).trans (mfX.st (by decide))).trans b3.X)
    · rw [b4 21, st_ne _ _ (by omega)]; exact j21
    · rw [b4 16, st_same]
    · have e5 : J2 (m + 5) = J1 (m + 5) := by rw [b3.1 _ (by omega) (by omega), st_row _ _ (by omega)]
      have g := jc j hj
      exact ⟨by rw [e5]; exact g.1, fun y hy => by rw [e5]; exact g.2 y hy⟩
  · have he9 := outF_le he
    have hM1 : ∀ eo2, J1 m 19 = eo2 → MSt J1 m R c h sv SR eo2 why det cau := fun eo2 h9 => hM0.mv (f1.1 _ (by omega) (by omega)) (f1.2 2 (by decide) (by decide) (by decide)) (f1.2 3 (by decide) (by decide) (by decide)) h9 (f1.2 5 (by decide) (by decide) (by decide)) (f1.2 6 (by decide) (by decide) (by decide)) (f1.2 7 (by decide) (by decide) (by decide))
    have h19 : J1 m 19 = eo := (f1.2 19 (by decide) (by decide) (by decide)).trans hM0.2.2.2.2.1
    refine q_aload_n hG rfl rfl ?_
    refine q_iconst (v := 0) hG rfl rfl ?_
    refine q_putI0 hG rfl (by assumption) ?_
    refine q_aload_n hG rfl rfl ?_
    refine q_getI0v (v := (e : Int)) hG rfl (by assumption) (by rw [st_ne _ _ (by omega)]; exact j18) ?_
    refine q_if_lt hG rfl ⟨by omega, by omega⟩ (fun hc13 => absurd hc13 (by omega)) (fun hc13 => ?_)
    refine q_aload_n hG rfl rfl ?_
    refine q_aload_n hG rfl rfl ?_
    refine q_getI0v (v := (e : Int)) hG rfl (by assumption) (by rw [st_ne _ _ (by omega)]; exact j18) ?_
    refine q_putI0 hG rfl (by assumption) ?_
    refine q_aload_n hG rfl rfl ?_
    refine q_iconst (v := 1) hG rfl rfl ?_
    refine q_putI0 hG rfl (by assumption) ?_
    refine q_iconst (v := 0) hG rfl rfl ?_
    refine q_iret0 hG rfl rfl ?_
    refine pS e he _ ((hM1 eo h19).mv (by rw [st_row _ _ (by omega), st_row _ _ (by omega), st_row _ _ (by omega)]) (by rw [st_ne _ _ (by omega), st_ne _ _ (by omega), st_ne _ _ (by omega)]) (by rw [st_ne _ _ (by omega), st_ne _ _ (by omega), st_ne _ _ (by omega)]) (by rw [st_ne _ _ (by omega), st_same]) (by rw [st_ne _ _ (by omega), st_ne _ _ (by omega), st_ne _ _ (by omega)]) (by rw [st_ne _ _ (by omega), st_ne _ _ (by omega), st_ne _ _ (by omega)]) (by rw [st_ne _ _ (by omega), st_ne _ _ (by omega), st_ne _ _ (by omega)])) (st_same _ _ _ _) (by rw [st_ne _ _ (by omega), st_ne _ _ (by omega), st_same]) (((f1.X.trans (mfX.st (by decide))).trans (mfX.st (by decide))).trans (mfX.st (by decide)))
