/-! the class: constraints, passes -/
def sameR (R : RW) (kd f s g : Int) (k : Nat) : Prop := R (29 + 5 * k + 1) = kd ∧ R (29 + 5 * k + 2) = f ∧ R (29 + 5 * k + 3) = s ∧ R (29 + 5 * k + 4) = g
theorem okB_ag {s t : PT} (h : pAg s t) (ht : okB t) : okB s := fun k hk => by
  rw [(h.1 k hk).1, (h.1 k hk).2]
  exact ht k hk
theorem wsm_ag {s t : PT} (h : pAg s t) : wsm s = wsm t := sm_congr 6 (fun k hk => by rw [(h.1 k hk).1, (h.1 k hk).2])
theorem rep_sm {I : IM} {R : RW} {kd f s g : Int} (rc : ∀ k : Nat, (k : Int) < R 1 → I 9 k = R (29 + 5 * k) ∧ I 10 k = R (29 + 5 * k + 1) ∧ I 11 k = R (29 + 5 * k + 2) ∧ I 12 k = R (29 + 5 * k + 3) ∧ I 13 k = R (29 + 5 * k + 4)) (k : Nat) (hk : (k : Int) < R 1) : (I 10 k = kd ∧ I 11 k = f ∧ I 12 k = s ∧ I 13 k = g) ↔ sameR R kd f s g k := by
  obtain ⟨-, e1, e2, e3, e4⟩ := rc k hk
  unfold sameR
  rw [e1, e2, e3, e4]

theorem s_X_enterConstraint {d : Nat} {B : HP} {I : IM} {Post : Out → HP → Prop} (hX : LX B) {R : RW} (hR : RepC I 1 R) {q : Int} (hW : WfR q R) (hq : q ≤ 2000000000) {kd f s g : Int} (hcn : cnP kd f s g) (hf : 0 ≤ f ∧ f < R 0) (hs : 0 ≤ s ∧ s < R 0) (p2 : R 1 = 10 → ∀ J : IM, rjf I J 2 (R 29) → Post (.inl (some (.int (i3 (-1))))) (wI B J)) (p3 : R 1 < 10 → ∀ p : Nat, fst (sameR R kd f s g) (R 1).toNat p → ∀ J : IM, rjf I J 3 (R (29 + 5 * p)) → Post (.inl (some (.int (i3 (-1))))) (wI B J)) (p1 : R 1 < 10 → (∀ k, k < (R 1).toNat → ¬ sameR R kd f s g k) → ∀ J : IM, RepC J 1 (bndR R kd f s g) → dfr I J → Post (.inl (some (.int (i3 (R 2))))) (wI B J)) : Sp (d + 2) k_X8_enterConstraint [.ref 0, .int (i3 (kd)), .int (i3 (f)), .int (i3 (s)), .int (i3 (g))] (wI B I) Post := by
  refine Sp_intro md_X8_enterConstraint rfl rfl (fun G hG => ?_)
  have hX0 := hX
  obtain ⟨x0, x1, x2, x3, x4, x5, x6, x7, x8, x9, x10, x11, x12, x13, x14, x15, x16, x17, x18, x19, x20, x21, x22, x23, x24, x25, x26, x27, x28, x29, x30, x31, x32, x33, x34, x35, x36, x37, x38, x39, x40, x41, x42, x43, x44⟩ := hX
  obtain ⟨d1, d2, d3, d4, hF, hBd, hCo⟩ := x10
  obtain ⟨f1, f2, f3, f4, f5⟩ := hF
  obtain ⟨g1, g2, g3, g4, g5⟩ := hBd
  obtain ⟨c1, c2, c3, c4, c5, c6, c7, c8, c9, c10, c11⟩ := hCo
  obtain ⟨t1, t2, t3, t4, t5⟩ := x12
  have hR0 := hR
  obtain ⟨r0, r1, r2, r3, r4, rd, rc, ry⟩ := hR
  have r1 : I 8 0 = R 1 := r1
  have r2 : I 8 1 = R 2 := r2
  have rd : ∀ k, k < 6 → I 3 k = R (5 + 4 * k) ∧ I 4 k = R (5 + 4 * k + 1) ∧ I 6 k = R (5 + 4 * k + 2) ∧ I 7 k = R (5 + 4 * k + 3) := rd
  have rc : ∀ k : Nat, (k : Int) < R 1 → I 9 k = R (29 + 5 * k) ∧ I 10 k = R (29 + 5 * k + 1) ∧ I 11 k = R (29 + 5 * k + 2) ∧ I 12 k = R (29 + 5 * k + 3) ∧ I 13 k = R (29 + 5 * k + 4) := rc
  have ry : ∀ k, k < 10 → 0 ≤ I 10 k ∧ I 10 k < 65536 := ry
  have hW0 := hW
  obtain ⟨w0, w1, w2, w3, w4, wd, wc⟩ := hW
  obtain ⟨n1, n2, n3, n4, n5⟩ := hcn
  have rs : ∀ k : Nat, (k : Int) < I 8 0 → r32 (I 10 k) ∧ r32 (I 11 k) ∧ r32 (I 12 k) ∧ r32 (I 13 k) := fun k hk => by
    rw [r1] at hk
    obtain ⟨-, e1, e2, e3, e4⟩ := rc k hk
    obtain ⟨-, v2, v3, v4, -, v6, -⟩ := wc k hk
    rw [e1, e2, e3, e4]
    exact ⟨⟨by omega, by omega⟩, ⟨by omega, by omega⟩, ⟨by omega, by omega⟩, ⟨by omega, by omega⟩⟩
  show G 0 [some (.ref 0), some (.int (i3 (kd))), some (.int (i3 (f))), some (.int (i3 (s))), some (.int (i3 (g))), none, none] [] (wI B I)
  refine q_aload_n hG rfl rfl ?_
  refine q_getR hG rfl (by assumption) (by assumption) ?_
  refine q_getR hG rfl (by assumption) (by assumption) ?_
  refine q_astore hG rfl rfl ?_
  refine q_aload hG rfl rfl ?_
  refine q_getI0v (v := R 1) hG rfl (by assumption) (r1) ?_
  refine q_bipush (v := 10) hG rfl rfl ?_
  refine q_icmp_lt hG rfl ⟨by omega, by omega⟩ ⟨by omega, by omega⟩ (fun hc16 => ?_) (fun hc16 => ?_)
  · refine q_aload hG rfl rfl ?_
    refine q_iload_n hG rfl rfl ?_
    refine q_iload_n hG rfl rfl ?_
    refine q_iload_n hG rfl rfl ?_
    refine q_iload hG rfl rfl ?_
    refine q_callV6 hG rfl rfl rfl (by assumption) (s_C_same (c := 8) (I := I) hX0.2.2.2.2.2.2.2.2.2.2.1.2.2.2.2.2.2 (by rw [r1]; exact w1) ⟨⟨by omega, by omega⟩, ⟨by omega, by omega⟩, ⟨by omega, by omega⟩, ⟨by omega, by omega⟩⟩ rs (fun p hsm => ?_) (fun hsm => ?_))
    · refine q_istore hG rfl rfl ?_
      refine q_iload hG rfl rfl ?_
      refine q_iconst (v := -1) hG rfl rfl ?_
      refine q_icmp_eq hG rfl (by first | exact ⟨by omega, by omega⟩ | exact ⟨by omega, by have z := hsm.1; omega⟩) ⟨by omega, by omega⟩ (fun hc47 => ?_) (fun hc47 => ?_)
      · refine q_aload hG rfl rfl ?_
        refine q_iload_n hG rfl rfl ?_
        refine q_iload_n hG rfl rfl ?_
        refine q_iload_n hG rfl rfl ?_
        refine q_iload hG rfl rfl ?_
        refine q_callV6 hG rfl rfl rfl (by assumption) (s_C_append (c := 8) (I := I) hX0.2.2.2.2.2.2.2.2.2.2.1.2.2.2.2.2.2 (by rw [r1]; exact ⟨w1.1, by omega⟩) ⟨by omega, by omega⟩ (fun J e1 e2 e3 e4 e5 e6 e7 e8 => ?_))
        refine q_iret0 hG rfl rfl ?_
        exfalso
        omega
      · refine q_aload_n hG rfl rfl ?_
        refine q_iconst (v := 3) hG rfl rfl ?_
        refine q_aload hG rfl rfl ?_
        refine q_getR hG rfl (by assumption) (by assumption) ?_
        refine q_iload hG rfl rfl ?_
        refine q_ialdv (v := R (29 + 5 * p)) hG rfl (by assumption) ⟨by omega, by have z := hsm.1; rw [r1] at z; omega, by have z := hsm.1; rw [r1] at z; omega⟩ (by have z := hsm.1; rw [r1] at z; exact (rc p (by omega)).1) ?_
        refine q_callV6 hG rfl rfl rfl (by assumption) (s_X_reject hX0 ?_)
        refine q_iret0 hG rfl rfl ?_
        rw [r1] at hsm
        exact p3 (by omega) p (fst_c (fun k hk => rep_sm rc k (by omega)) hsm) _ (rjf_of _ _ _)
    · refine q_istore hG rfl rfl ?_
      refine q_iload hG rfl rfl ?_
      refine q_iconst (v := -1) hG rfl rfl ?_
      refine q_icmp_eq hG rfl (by first | exact ⟨by omega, by omega⟩ | exact ⟨by omega, by have z := hsm.1; omega⟩) ⟨by omega, by omega⟩ (fun _ => ?_) (fun q => absurd (by decide) q)
      refine q_aload hG rfl rfl ?_
      refine q_iload_n hG rfl rfl ?_
      refine q_iload_n hG rfl rfl ?_
      refine q_iload_n hG rfl rfl ?_
      refine q_iload hG rfl rfl ?_
      refine q_callV6 hG rfl rfl rfl (by assumption) (s_C_append (c := 8) (I := I) hX0.2.2.2.2.2.2.2.2.2.2.1.2.2.2.2.2.2 (by rw [r1]; exact ⟨w1.1, by omega⟩) ⟨by omega, by omega⟩ (fun J e1 e2 e3 e4 e5 e6 e7 e8 => ?_))
      refine q_iret0 hG rfl rfl ?_
      rw [r1] at e6
      rw [r2] at e7 ⊢
      have e1 : J 9 = upf (I 9) (R 1).toNat (R 2) := by rw [← r1, ← r2]; exact e1
      have e2 : J 10 = upf (I 10) (R 1).toNat kd := by rw [← r1]; exact e2
      have e3 : J 11 = upf (I 11) (R 1).toNat f := by rw [← r1]; exact e3
      have e4 : J 12 = upf (I 12) (R 1).toNat s := by rw [← r1]; exact e4
      have e5 : J 13 = upf (I 13) (R 1).toNat g := by rw [← r1]; exact e5
      refine p1 (by omega) (fun k hk => fun z => ?_) J ⟨?_, ?_, ?_, ?_, ?_, fun k hk => ?_, fun k hk => ?_, fun k hk => ?_⟩ (fun a ha => e8 a (by omega))
      · exact hsm k (by rw [r1]; exact hk) ((rep_sm rc k (by omega)).mpr z)
      · rw [e8 1 (by omega), bnd_o _ _ _ _ _ (by omega)]; exact r0
      · exact e6
      · exact e7
      · rw [e8 1 (by omega), bnd_o _ _ _ _ _ (by omega)]; exact r3
      · rw [e8 1 (by omega), bnd_o _ _ _ _ _ (by omega)]; exact r4
      · rw [e8 _ (by omega), e8 _ (by omega), e8 _ (by omega), e8 _ (by omega), bnd_o _ _ _ _ _ (by omega), bnd_o _ _ _ _ _ (by omega), bnd_o _ _ _ _ _ (by omega), bnd_o _ _ _ _ _ (by omega)]
        exact rd k hk
      · have hk : (k : Int) < R 1 + 1 := hk
        obtain ⟨b1, b2, b3, b4, b5⟩ := bnd_c R kd f s g k
        rw [b1, b2, b3, b4, b5, e1, e2, e3, e4, e5]
        unfold upf
        by_cases e : k = (R 1).toNat
        · rw [if_pos e, if_pos e, if_pos e, if_pos e, if_pos e, if_pos e, if_pos e, if_pos e, if_pos e, if_pos e]
          exact ⟨rfl, rfl, rfl, rfl, rfl⟩
        · rw [if_neg e, if_neg e, if_neg e, if_neg e, if_neg e, if_neg e, if_neg e, if_neg e, if_neg e, if_neg e]
          exact rc k (by omega)
      · rw [e2]
        unfold upf
        split
        · omega
        · exact ry k hk
  · refine q_aload_n hG rfl rfl ?_
    refine q_iconst (v := 2) hG rfl rfl ?_
    refine q_aload hG rfl rfl ?_
    refine q_getR hG rfl (by assumption) (by assumption) ?_
    refine q_iconst (v := 0) hG rfl rfl ?_
    refine q_ialdv (v := R 29) hG rfl (by assumption) ⟨by omega, by omega, by omega⟩ ((rc 0 (by omega)).1) ?_
    refine q_callV6 hG rfl rfl rfl (by assumption) (s_X_reject hX0 ?_)
    refine q_iret0 hG rfl rfl ?_
    exact p2 (by omega) _ (rjf_of _ _ _)
theorem s_X_takeAway {d : Nat} {B : HP} {I : IM} {Post : Out → HP → Prop} (hX : LX B) {R : RW} (hR : RepC I 1 R) {q : Int} (hW : WfR q R) (hq : q ≤ 2000000000) {p : Nat} (hp : (p : Int) < R 1) (p1 : ∀ J : IM, RepC J 1 (drpR R p) → dfr I J → Post (.inl (some (.int (i3 (R 1 - 1))))) (wI B J)) : Sp (d + 3) k_X8_takeConstraintAway [.ref 0, .int (i3 ((p : Int)))] (wI B I) Post := by
  refine Sp_intro md_X8_takeConstraintAway rfl rfl (fun G hG => ?_)
  have hX0 := hX
  obtain ⟨x0, x1, x2, x3, x4, x5, x6, x7, x8, x9, x10, x11, x12, x13, x14, x15, x16, x17, x18, x19, x20, x21, x22, x23, x24, x25, x26, x27, x28, x29, x30, x31, x32, x33, x34, x35, x36, x37, x38, x39, x40, x41, x42, x43, x44⟩ := hX
  obtain ⟨d1, d2, d3, d4, hF, hBd, hCo⟩ := x10
  obtain ⟨f1, f2, f3, f4, f5⟩ := hF
  obtain ⟨g1, g2, g3, g4, g5⟩ := hBd
  obtain ⟨c1, c2, c3, c4, c5, c6, c7, c8, c9, c10, c11⟩ := hCo
  obtain ⟨t1, t2, t3, t4, t5⟩ := x12
  have hR0 := hR
  obtain ⟨r0, r1, r2, r3, r4, rd, rc, ry⟩ := hR
  have r1 : I 8 0 = R 1 := r1
  have r2 : I 8 1 = R 2 := r2
  have rd : ∀ k, k < 6 → I 3 k = R (5 + 4 * k) ∧ I 4 k = R (5 + 4 * k + 1) ∧ I 6 k = R (5 + 4 * k + 2) ∧ I 7 k = R (5 + 4 * k + 3) := rd
  have rc : ∀ k : Nat, (k : Int) < R 1 → I 9 k = R (29 + 5 * k) ∧ I 10 k = R (29 + 5 * k + 1) ∧ I 11 k = R (29 + 5 * k + 2) ∧ I 12 k = R (29 + 5 * k + 3) ∧ I 13 k = R (29 + 5 * k + 4) := rc
  have ry : ∀ k, k < 10 → 0 ≤ I 10 k ∧ I 10 k < 65536 := ry
  have hW0 := hW
  obtain ⟨w0, w1, w2, w3, w4, wd, wc⟩ := hW
  show G 0 [some (.ref 0), some (.int (i3 ((p : Int))))] [] (wI B I)
  refine q_aload_n hG rfl rfl ?_
  refine q_getR hG rfl (by assumption) (by assumption) ?_
  refine q_getR hG rfl (by assumption) (by assumption) ?_
  refine q_iload_n hG rfl rfl ?_
  refine q_callV6 hG rfl rfl rfl (by assumption) (s_C_takeOut (c := 8) (I := I) hX0.2.2.2.2.2.2.2.2.2.2.1.2.2.2.2.2.2 (by rw [r1]; exact w1) (by rw [r1]; exact hp) ry (fun J1 e0 en e1 e2 e3 e4 e5 eo => ?_))
  have eo : ∀ a, a < 8 ∨ 13 < a → J1 a = I a := eo
  have hrk : ∀ k, k < 6 → rD J1 1 k := fun k hk => by
    obtain ⟨u1, u2, u3, u4⟩ := rd k hk
    have u := (wd k hk).1
    show r32 (J1 3 k) ∧ r32 (J1 4 k) ∧ r32 (J1 6 k) ∧ r32 (J1 7 k)
    rw [eo 3 (by omega), eo 4 (by omega), eo 6 (by omega), eo 7 (by omega), u1, u2, u3, u4]
    exact ⟨⟨by omega, by omega⟩, ⟨by omega, by omega⟩, ⟨by omega, by omega⟩, ⟨by omega, by omega⟩⟩
  refine q_aload_n hG rfl rfl ?_
  refine q_getR hG rfl (by assumption) (by assumption) ?_
  refine q_callV6 hG rfl rfl rfl (by assumption) (s_D_open hX0.2.2.2.2.2.2.2.2.2.2.1 (by rw [eo 1 (by omega), r0]; exact w0) hrk (fun J j1 j2 j3 => ?_))
  refine q_pop hG rfl rfl ?_
  refine q_aload_n hG rfl rfl ?_
  refine q_getR hG rfl (by assumption) (by assumption) ?_
  refine q_getR hG rfl (by assumption) (by assumption) ?_
  refine q_getI0v (v := R 1 - 1) hG rfl (by assumption) (by show J 8 0 = _; rw [j3 8 (by decide) (by decide), e0, r1]) ?_
  refine q_iret0 hG rfl rfl ?_
  have j3 : ∀ a, a ≠ 6 → a ≠ 7 → J a = J1 a := j3
  rw [r1] at e1 e2 e3 e4 e5
  have e1 : J1 9 = (fun q => if p ≤ q ∧ (q : Int) < R 1 - 1 then I 9 (q + 1) else I 9 q) := e1
  have e2 : J1 10 = (fun q => if p ≤ q ∧ (q : Int) < R 1 - 1 then I 10 (q + 1) else I 10 q) := e2
  have e3 : J1 11 = (fun q => if p ≤ q ∧ (q : Int) < R 1 - 1 then I 11 (q + 1) else I 11 q) := e3
  have e4 : J1 12 = (fun q => if p ≤ q ∧ (q : Int) < R 1 - 1 then I 12 (q + 1) else I 12 q) := e4
  have e5 : J1 13 = (fun q => if p ≤ q ∧ (q : Int) < R 1 - 1 then I 13 (q + 1) else I 13 q) := e5
  have d1 : drpR R p 1 = R 1 - 1 := by unfold drpR; rw [openR_o _ (by omega), if_pos rfl]
  refine p1 J ⟨?_, ?_, ?_, ?_, ?_, fun k hk => ?_, fun k hk => ?_, fun k hk => ?_⟩ (fun a ha => by rw [j3 a (by omega) (by omega), eo a (by omega)])
  · rw [j3 _ (by decide) (by decide), eo _ (by omega), drp_o _ _ (by omega) (by omega)]; exact r0
  · rw [j3 _ (by decide) (by decide), d1]; show J1 8 0 = _; rw [e0, r1]
  · rw [j3 _ (by decide) (by decide), drp_o _ _ (by omega) (by omega)]; show J1 8 1 = _; rw [en]; exact r2
  · rw [j3 _ (by decide) (by decide), eo _ (by omega), drp_o _ _ (by omega) (by omega)]; exact r3
  · rw [j3 _ (by decide) (by decide), eo _ (by omega), drp_o _ _ (by omega) (by omega)]; exact r4
  · obtain ⟨a1, a2, a3, a4⟩ := drp_k R p k hk (by omega)
    rw [a1, a2, a3, a4]
    refine ⟨?_, ?_, (j1 k hk).trans ?_, (j2 k hk).trans ?_⟩
    · rw [j3 _ (by decide) (by decide), eo _ (by omega)]; exact (rd k hk).1
    · rw [j3 _ (by decide) (by decide), eo _ (by omega)]; exact (rd k hk).2.1
    · rw [eo _ (by omega)]; exact (rd k hk).1
    · rw [eo _ (by omega)]; exact (rd k hk).2.1
  · rw [d1] at hk
    have c0 : drpR R p (29 + 5 * k) = if p ≤ k then R (29 + 5 * (k + 1)) else R (29 + 5 * k) := drp_c R p k 0 (by omega) hk
    rw [c0, drp_c R p k 1 (by omega) hk, drp_c R p k 2 (by omega) hk, drp_c R p k 3 (by omega) hk, drp_c R p k 4 (by omega) hk]
    show J 9 k = _ ∧ J 10 k = _ ∧ J 11 k = _ ∧ J 12 k = _ ∧ J 13 k = _
    rw [j3 _ (by decide) (by decide), j3 _ (by decide) (by decide), j3 _ (by decide) (by decide), j3 _ (by decide) (by decide), j3 _ (by decide) (by decide), e1, e2, e3, e4, e5]
    by_cases h : p ≤ k
    · simp only [if_pos (show p ≤ k ∧ (k : Int) < R 1 - 1 from ⟨h, hk⟩), if_pos h]
      exact rc (k + 1) (by omega)
    · simp only [if_neg (show ¬ (p ≤ k ∧ (k : Int) < R 1 - 1) from fun z => h z.1), if_neg h]
      exact rc k (by omega)
  · rw [j3 _ (by decide) (by decide)]
    show 0 ≤ J1 10 k ∧ J1 10 k < 65536
    rw [e2]
    show 0 ≤ (if p ≤ k ∧ (k : Int) < R 1 - 1 then I 10 (k + 1) else I 10 k) ∧ (if p ≤ k ∧ (k : Int) < R 1 - 1 then I 10 (k + 1) else I 10 k) < 65536
    split
    · exact ry (k + 1) (by omega)
    · exact ry k hk
theorem s_X_takeOver {d : Nat} {B : HP} {I : IM} {Post : Out → HP → Prop} (hX : LX B)  (hp : ∀ K : IM, (∀ j, j < 6 → K 6 j = I 147 j ∧ K 7 j = I 148 j) → K 1 4 = I 1 4 + I 149 0 → K 1 5 = I 1 5 + I 149 1 → (∀ k, k ≠ 4 → k ≠ 5 → K 1 k = I 1 k) → (∀ a, a ≠ 1 → a ≠ 6 → a ≠ 7 → K a = I a) → Post (.inl none) (wI B K)) : Sp (d + 2) k_X8_takeOverTrial [.ref 0] (wI B I) Post := by
  refine Sp_intro md_X8_takeOverTrial rfl rfl (fun G hG => ?_)
  have hX0 := hX
  obtain ⟨x0, x1, x2, x3, x4, x5, x6, x7, x8, x9, x10, x11, x12, x13, x14, x15, x16, x17, x18, x19, x20, x21, x22, x23, x24, x25, x26, x27, x28, x29, x30, x31, x32, x33, x34, x35, x36, x37, x38, x39, x40, x41, x42, x43, x44⟩ := hX
  obtain ⟨d1, d2, d3, d4, hF, hBd, hCo⟩ := x10
  obtain ⟨f1, f2, f3, f4, f5⟩ := hF
  obtain ⟨g1, g2, g3, g4, g5⟩ := hBd
  obtain ⟨c1, c2, c3, c4, c5, c6, c7, c8, c9, c10, c11⟩ := hCo
  obtain ⟨t1, t2, t3, t4, t5⟩ := x12
  show G 0 [some (.ref 0)] [] (wI B I)
  refine q_aload_n hG rfl rfl ?_
  refine q_getR hG rfl (by assumption) (by assumption) ?_
  refine q_getR hG rfl (by assumption) (by assumption) ?_
  refine q_aload_n hG rfl rfl ?_
  refine q_getR hG rfl (by assumption) (by assumption) ?_
  refine q_callV6 hG rfl rfl rfl (by assumption) (s_B_copy hX0.2.2.2.2.2.2.2.2.2.2.1.2.2.2.2.2.1 hX0.2.2.2.2.2.2.2.2.2.2.2.2.1 (by omega) (fun J1 a1 a2 a3 => ?_))
  refine q_aload_n hG rfl rfl ?_
  refine q_getR hG rfl (by assumption) (by assumption) ?_
  refine q_dup hG rfl rfl ?_
  refine q_getI0v (v := I 1 4) hG rfl (by assumption) (by rw [a3 1 (by decide) (by decide)]) ?_
  refine q_aload_n hG rfl rfl ?_
  refine q_getR hG rfl (by assumption) (by assumption) ?_
  refine q_getI0v (v := I 149 0) hG rfl (by assumption) (by rw [a3 149 (by decide) (by decide)]) ?_
  refine q_iadd hG rfl ?_
  refine q_putI0 hG rfl (by assumption) ?_
  refine q_aload_n hG rfl rfl ?_
  refine q_getR hG rfl (by assumption) (by assumption) ?_
  refine q_dup hG rfl rfl ?_
  refine q_getI0v (v := I 1 5) hG rfl (by assumption) (by rw [st_ne _ _ (by decide), a3 1 (by decide) (by decide)]) ?_
  refine q_aload_n hG rfl rfl ?_
  refine q_getR hG rfl (by assumption) (by assumption) ?_
  refine q_getI0v (v := I 149 1) hG rfl (by assumption) (by rw [st_row _ _ (by decide), a3 149 (by decide) (by decide)]) ?_
  refine q_iadd hG rfl ?_
  refine q_putI0 hG rfl (by assumption) ?_
  refine q_vret hG rfl ?_
  refine hp _ (fun j hj => ⟨?_, ?_⟩) ?_ ?_ (fun k h4 h5 => ?_) (fun a h1 h6 h7 => ?_)
  · rw [st_row _ _ (by decide), st_row _ _ (by decide)]; exact a1 j hj
  · rw [st_row _ _ (by decide), st_row _ _ (by decide)]; exact a2 j hj
  · rw [st_ne _ _ (by decide), st_same]
  · rw [st_same]
  · rw [st_ne _ _ (by omega), st_ne _ _ (by omega), a3 1 (by decide) (by decide)]
  · rw [st_row _ _ h1, st_row _ _ h1, a3 a h6 h7]
/-- the trial state, behind the copy and the beginning -/
theorem trial_ok {I J1 J2 : IM} {R : RW} {q : Int} (hR : RepC I 1 R) (hW : WfR q R) (hq : q ≤ 2000000000) (a1 : ∀ j, j < 6 → J1 147 j = I 6 j) (a2 : ∀ j, j < 6 → J1 148 j = I 7 j) (a3 : ∀ a, a ≠ 147 → a ≠ 148 → J1 a = I a) (b1 : J2 149 1 = 0) (b3 : ∀ a, a ≠ 149 → J2 a = J1 a) :
    pAg (ntS J2 146 149) (ptR R) ∧ cWF J2 8 ∧ okB (ntS J2 146 149) ∧ J2 8 0 = R 1 ∧ (∀ p, p < (R 1).toNat → cnI J2 8 p = cnR R p ∧ (cnI J2 8 p).2.1 < 6 ∧ (cnI J2 8 p).2.2.1 < 6) ∧ ∀ a, a ≠ 147 → a ≠ 148 → a ≠ 149 → J2 a = I a := by
  have ho : ∀ a, a ≠ 147 → a ≠ 148 → a ≠ 149 → J2 a = I a := fun a h1 h2 h3 => by rw [b3 a h3, a3 a h1 h2]
  have hag : pAg (ntS J2 146 149) (ptR R) := by
    refine ⟨fun k hk => ⟨?_, ?_⟩, b1⟩
    · show J2 147 k = R (5 + 4 * k + 2)
      rw [b3 _ (by decide), a1 k hk]
      exact (hR.2.2.2.2.2.1 k hk).2.2.1
    · show J2 148 k = R (5 + 4 * k + 3)
      rw [b3 _ (by decide), a2 k hk]
      exact (hR.2.2.2.2.2.1 k hk).2.2.2
  have hrow : ∀ a, 8 ≤ a → a ≤ 8 + 5 → J2 a = I a := fun a h1 h2 => ho a (by omega) (by omega) (by omega)
  have hcw : cWF J2 8 := row_cWF hrow (hR.cWF hW hq)
  have hn : J2 8 0 = R 1 := by rw [hrow 8 (by omega) (by omega)]; exact hR.2.1
  refine ⟨hag, hcw, okB_ag hag (ptR_ok hW), hn, fun p hp => ?_, ho⟩
  have h6 := cWF_6 hcw p (by rw [hn]; exact hp)
  refine ⟨?_, h6⟩
  rw [row_cn hrow]
  exact hR.cn p (by omega)
theorem setB_rep {I K : IM} {R : RW} {s : PT} {dp : Int} (hR : RepC I 1 R) (k6 : ∀ j, j < 6 → K 6 j = s.1 j ∧ K 7 j = s.2.1 j) (k4 : K 1 4 = R 3 + dp) (k5 : K 1 5 = R 4 + s.2.2) (kk : K 1 0 = I 1 0) (ko : ∀ a, 1 < a → a ≤ 13 → a ≠ 6 → a ≠ 7 → K a = I a) : RepC K 1 (setB R s dp) := by
  obtain ⟨r0, r1, r2, r3, r4, rd, rc, ry⟩ := hR
  refine ⟨?_, ?_, ?_, k4, k5, fun k hk => ?_, fun k hk => ?_, fun k hk => ?_⟩
  · rw [kk, setB_o _ _ _ (by omega)]; exact r0
  · rw [ko _ (by omega) (by omega) (by decide) (by decide), setB_o _ _ _ (by omega)]; exact r1
  · rw [ko _ (by omega) (by omega) (by decide) (by decide), setB_o _ _ _ (by omega)]; exact r2
  · obtain ⟨a1, a2, a3, a4⟩ := setB_k R s dp k hk
    rw [a1, a2, a3, a4, ko _ (by omega) (by omega) (by decide) (by decide), ko _ (by omega) (by omega) (by decide) (by decide)]
    exact ⟨(rd k hk).1, (rd k hk).2.1, (k6 k hk).1, (k6 k hk).2⟩
  · rw [setB_o _ _ _ (by omega)] at hk
    rw [setB_o _ _ _ (by omega), setB_o _ _ _ (by omega), setB_o _ _ _ (by omega), setB_o _ _ _ (by omega), setB_o _ _ _ (by omega), ko _ (by omega) (by omega) (by decide) (by decide), ko _ (by omega) (by omega) (by decide) (by decide), ko _ (by omega) (by omega) (by decide) (by decide), ko _ (by omega) (by omega) (by decide) (by decide), ko _ (by omega) (by omega) (by decide) (by decide)]
    exact rc k hk
  · rw [ko _ (by omega) (by omega) (by decide) (by decide)]
    exact ry k hk
noncomputable abbrev paR (R : RW) (wa : Int) : PT × Option Nat := paM (cnR R) wa (R 1).toNat 0 (ptR R)
noncomputable abbrev stR2 (R : RW) (wa : Int) : Option Nat × PT × Int := stM (cnR R) wa (R 1).toNat 1000 (ptR R) 0

theorem s_X_passOnce {d : Nat} {B : HP} {I : IM} {Post : Out → HP → Prop} (hX : LX B) {R : RW} (hR : RepC I 1 R) {q : Int} (hW : WfR q R) (hq : q ≤ 2000000000)  (p1 : (paR R 1).2 = none → ∀ J : IM, RepC J 1 (setB R (paR R 1).1 1) → dfr I J → Post (.inl (some (.int (i3 ((paR R 1).1.2.2))))) (wI B J)) (p0 : ∀ p : Nat, (paR R 1).2 = some p → ∀ J : IM, rjf I J 5 (R (29 + 5 * p)) → Post (.inl (some (.int (i3 (-1))))) (wI B J)) : Sp (d + 4) k_X8_passOnce [.ref 0] (wI B I) Post := by
  refine Sp_intro md_X8_passOnce rfl rfl (fun G hG => ?_)
  have hX0 := hX
  obtain ⟨x0, x1, x2, x3, x4, x5, x6, x7, x8, x9, x10, x11, x12, x13, x14, x15, x16, x17, x18, x19, x20, x21, x22, x23, x24, x25, x26, x27, x28, x29, x30, x31, x32, x33, x34, x35, x36, x37, x38, x39, x40, x41, x42, x43, x44⟩ := hX
  obtain ⟨d1, d2, d3, d4, hF, hBd, hCo⟩ := x10
  obtain ⟨f1, f2, f3, f4, f5⟩ := hF
  obtain ⟨g1, g2, g3, g4, g5⟩ := hBd
  obtain ⟨c1, c2, c3, c4, c5, c6, c7, c8, c9, c10, c11⟩ := hCo
  obtain ⟨t1, t2, t3, t4, t5⟩ := x12
  have hR0 := hR
  obtain ⟨r0, r1, r2, r3, r4, rd, rc, ry⟩ := hR
  have r1 : I 8 0 = R 1 := r1
  have r2 : I 8 1 = R 2 := r2
  have rd : ∀ k, k < 6 → I 3 k = R (5 + 4 * k) ∧ I 4 k = R (5 + 4 * k + 1) ∧ I 6 k = R (5 + 4 * k + 2) ∧ I 7 k = R (5 + 4 * k + 3) := rd
  have rc : ∀ k : Nat, (k : Int) < R 1 → I 9 k = R (29 + 5 * k) ∧ I 10 k = R (29 + 5 * k + 1) ∧ I 11 k = R (29 + 5 * k + 2) ∧ I 12 k = R (29 + 5 * k + 3) ∧ I 13 k = R (29 + 5 * k + 4) := rc
  have ry : ∀ k, k < 10 → 0 ≤ I 10 k ∧ I 10 k < 65536 := ry
  have hW0 := hW
  obtain ⟨w0, w1, w2, w3, w4, wd, wc⟩ := hW
  show G 0 [some (.ref 0)] [] (wI B I)
  refine q_aload_n hG rfl rfl ?_
  refine q_getR hG rfl (by assumption) (by assumption) ?_
  refine q_aload_n hG rfl rfl ?_
  refine q_getR hG rfl (by assumption) (by assumption) ?_
  refine q_getR hG rfl (by assumption) (by assumption) ?_
  refine q_callV6 hG rfl rfl rfl (by assumption) (s_B_copy hX0.2.2.2.2.2.2.2.2.2.2.2.2.1 hX0.2.2.2.2.2.2.2.2.2.2.1.2.2.2.2.2.1 (by omega) (fun J1 a1 a2 a3 => ?_))
  refine q_aload_n hG rfl rfl ?_
  refine q_getR hG rfl (by assumption) (by assumption) ?_
  refine q_callV6 hG rfl rfl rfl (by assumption) (s_N_begin (by assumption) (fun J2 b0 b1 b2 b3 => ?_))
  obtain ⟨hag, hcw, hok, hn0, hcn, ho⟩ := trial_ok hR0 hW0 hq a1 a2 a3 b1 b3
  refine q_aload_n hG rfl rfl ?_
  refine q_getR hG rfl (by assumption) (by assumption) ?_
  refine q_aload_n hG rfl rfl ?_
  refine q_getR hG rfl (by assumption) (by assumption) ?_
  refine q_getR hG rfl (by assumption) (by assumption) ?_
  refine q_aload_n hG rfl rfl ?_
  refine q_getR hG rfl (by assumption) (by assumption) ?_
  refine q_iconst (v := 1) hG rfl rfl ?_
  refine q_callV6 hG rfl rfl rfl (by assumption) (s_N_pass (c := 8) (t := 146) (w := 149) (wa := 1) (I := J2) hX0.2.2.2.2.2.2.2.2.2.2.2.2.1 hX0.2.2.2.2.2.2.2.2.2.2.1.2.2.2.2.2.2 (by assumption) (by omega) (by omega) (by omega) hcw (by omega) hok (fun J3 e1 e2 e3 e3b e4 => ?_) (fun J3 p e1 e2 e3 e4 => ?_))
  · rw [hn0] at e1 e2
    obtain ⟨p1a, p1b⟩ := paM_ag (wa := 1) hcn (R 1).toNat 0 _ _ (by omega) hag
    refine q_if_ne hG rfl ⟨by omega, by omega⟩ (fun _ => ?_) (fun q => absurd (by decide) q)
    refine q_aload_n hG rfl rfl ?_
    refine q_callV6 hG rfl rfl rfl (by assumption) (s_X_takeOver hX0 (fun K k1 k2 k3 k4 k5 => ?_))
    refine q_aload_n hG rfl rfl ?_
    refine q_getR hG rfl (by assumption) (by assumption) ?_
    refine q_getI0v (v := J3 149 1) hG rfl (by assumption) (by rw [k5 149 (by decide) (by decide) (by decide)]) ?_
    refine q_iret0 hG rfl rfl ?_
    have e0 : J3 1 = I 1 := by rw [e4 1 (by decide) (by decide) (by decide), ho 1 (by decide) (by decide) (by decide)]
    have s1 : J3 147 = ((paM (cnI J2 8) 1 (R 1).toNat 0 (ntS J2 146 149)).1).1 := congrArg Prod.fst e2
    have s2 : J3 148 = ((paM (cnI J2 8) 1 (R 1).toNat 0 (ntS J2 146 149)).1).2.1 := congrArg (fun z => z.2.1) e2
    have s3 : J3 149 1 = ((paM (cnI J2 8) 1 (R 1).toNat 0 (ntS J2 146 149)).1).2.2 := congrArg (fun z => z.2.2) e2
    refine Eq.mp ?_ (p1 (by rw [← p1b]; exact e1) K (setB_rep hR0 (fun j hj => ?_) ?_ ?_ ?_ (fun a h1 h2 h6 h7 => ?_)) (fun a ha => ?_))
    · congr 5
      rw [s3]; exact p1a.2.symm
    · rw [(k1 j hj).1, (k1 j hj).2, s1, s2]
      exact (p1a).1 j hj
    · rw [k2, e0, r3]
      rw [e3, b0]; rfl
    · rw [k3, e0, r4, s3, (p1a).2]
    · rw [k4 0 (by decide) (by decide), e0]
    · rw [k5 a (by omega) h6 h7, e4 a (by omega) (by omega) (by omega), ho a (by omega) (by omega) (by omega)]
    · rw [k5 a (by omega) (by omega) (by omega), e4 a (by omega) (by omega) (by omega), ho a (by omega) (by omega) (by omega)]
  · rw [hn0] at e1 e2
    obtain ⟨p1a, p1b⟩ := paM_ag (wa := 1) hcn (R 1).toNat 0 _ _ (by omega) hag
    refine q_if_ne hG rfl ⟨by omega, by omega⟩ (fun q => absurd q (by decide)) (fun _ => ?_)
    refine q_aload_n hG rfl rfl ?_
    refine q_iconst (v := 5) hG rfl rfl ?_
    refine q_aload_n hG rfl rfl ?_
    refine q_getR hG rfl (by assumption) (by assumption) ?_
    refine q_getI0 hG rfl (by assumption) ?_
    refine q_callV6 hG rfl rfl rfl (by assumption) (s_X_reject hX0 ?_)
    refine q_iret0 hG rfl rfl ?_
    refine p0 p (by rw [← p1b]; exact e1) _ (rjf_up (J := J3) (fun a ha => by rw [e4 a (by omega) (by omega) (by omega), ho a (by omega) (by omega) (by omega)]) ?_)
    have e3 : J3 149 2 = J2 9 p := e3
    rw [ho 9 (by decide) (by decide) (by decide), (rc p (by omega)).1] at e3
    rw [e3]
    exact rjf_of _ _ _
theorem s_X_settle {d : Nat} {B : HP} {I : IM} {Post : Out → HP → Prop} (hX : LX B) {R : RW} (hR : RepC I 1 R) {q : Int} (hW : WfR q R) (hq : q ≤ 2000000000)  (p1 : (stR2 R 1).1 = none → ∀ J : IM, RepC J 1 (setB R (stR2 R 1).2.1 (stR2 R 1).2.2) → dfr I J → Post (.inl (some (.int (i3 ((stR2 R 1).2.2))))) (wI B J)) (p0 : ∀ p : Nat, (stR2 R 1).1 = some p → ∀ J : IM, rjf I J 5 (R (29 + 5 * p)) → Post (.inl (some (.int (i3 (-1))))) (wI B J)) : Sp (d + 5) k_X8_passUntilSettled [.ref 0] (wI B I) Post := by
  refine Sp_intro md_X8_passUntilSettled rfl rfl (fun G hG => ?_)
  have hX0 := hX
  obtain ⟨x0, x1, x2, x3, x4, x5, x6, x7, x8, x9, x10, x11, x12, x13, x14, x15, x16, x17, x18, x19, x20, x21, x22, x23, x24, x25, x26, x27, x28, x29, x30, x31, x32, x33, x34, x35, x36, x37, x38, x39, x40, x41, x42, x43, x44⟩ := hX
  obtain ⟨d1, d2, d3, d4, hF, hBd, hCo⟩ := x10
  obtain ⟨f1, f2, f3, f4, f5⟩ := hF
  obtain ⟨g1, g2, g3, g4, g5⟩ := hBd
  obtain ⟨c1, c2, c3, c4, c5, c6, c7, c8, c9, c10, c11⟩ := hCo
  obtain ⟨t1, t2, t3, t4, t5⟩ := x12
  have hR0 := hR
  obtain ⟨r0, r1, r2, r3, r4, rd, rc, ry⟩ := hR
  have r1 : I 8 0 = R 1 := r1
  have r2 : I 8 1 = R 2 := r2
  have rd : ∀ k, k < 6 → I 3 k = R (5 + 4 * k) ∧ I 4 k = R (5 + 4 * k + 1) ∧ I 6 k = R (5 + 4 * k + 2) ∧ I 7 k = R (5 + 4 * k + 3) := rd
  have rc : ∀ k : Nat, (k : Int) < R 1 → I 9 k = R (29 + 5 * k) ∧ I 10 k = R (29 + 5 * k + 1) ∧ I 11 k = R (29 + 5 * k + 2) ∧ I 12 k = R (29 + 5 * k + 3) ∧ I 13 k = R (29 + 5 * k + 4) := rc
  have ry : ∀ k, k < 10 → 0 ≤ I 10 k ∧ I 10 k < 65536 := ry
  have hW0 := hW
  obtain ⟨w0, w1, w2, w3, w4, wd, wc⟩ := hW
  show G 0 [some (.ref 0)] [] (wI B I)
  refine q_aload_n hG rfl rfl ?_
  refine q_getR hG rfl (by assumption) (by assumption) ?_
  refine q_aload_n hG rfl rfl ?_
  refine q_getR hG rfl (by assumption) (by assumption) ?_
  refine q_getR hG rfl (by assumption) (by assumption) ?_
  refine q_callV6 hG rfl rfl rfl (by assumption) (s_B_copy hX0.2.2.2.2.2.2.2.2.2.2.2.2.1 hX0.2.2.2.2.2.2.2.2.2.2.1.2.2.2.2.2.1 (by omega) (fun J1 a1 a2 a3 => ?_))
  refine q_aload_n hG rfl rfl ?_
  refine q_getR hG rfl (by assumption) (by assumption) ?_
  refine q_callV6 hG rfl rfl rfl (by assumption) (s_N_begin (by assumption) (fun J2 b0 b1 b2 b3 => ?_))
  obtain ⟨hag, hcw, hok, hn0, hcn, ho⟩ := trial_ok hR0 hW0 hq a1 a2 a3 b1 b3
  refine q_aload_n hG rfl rfl ?_
  refine q_getR hG rfl (by assumption) (by assumption) ?_
  refine q_aload_n hG rfl rfl ?_
  refine q_getR hG rfl (by assumption) (by assumption) ?_
  refine q_getR hG rfl (by assumption) (by assumption) ?_
  refine q_aload_n hG rfl rfl ?_
  refine q_getR hG rfl (by assumption) (by assumption) ?_
  refine q_iconst (v := 1) hG rfl rfl ?_
  refine q_callV6 hG rfl rfl rfl (by assumption) (s_N_end (c := 8) (t := 146) (w := 149) (wa := 1) (I := J2) hX0.2.2.2.2.2.2.2.2.2.2.2.2.1 hX0.2.2.2.2.2.2.2.2.2.2.1.2.2.2.2.2.2 (by assumption) (by omega) (by omega) (by omega) hcw (by omega) hok (by omega) (fun J3 e1 e2 e3 e4 => ?_) (fun J3 p e1 e2 e3 e4 => ?_))
  · rw [hn0, b0] at e1 e2 e3
    obtain ⟨p1a, p1b, p1c⟩ := stM_ag (wa := 1) hcn 1000 _ _ 0 hag
    refine q_if_ne hG rfl ⟨by omega, by omega⟩ (fun _ => ?_) (fun q => absurd (by decide) q)
    refine q_aload_n hG rfl rfl ?_
    refine q_callV6 hG rfl rfl rfl (by assumption) (s_X_takeOver hX0 (fun K k1 k2 k3 k4 k5 => ?_))
    refine q_aload_n hG rfl rfl ?_
    refine q_getR hG rfl (by assumption) (by assumption) ?_
    refine q_getI0v (v := J3 149 0) hG rfl (by assumption) (by rw [k5 149 (by decide) (by decide) (by decide)]) ?_
    refine q_iret0 hG rfl rfl ?_
    have e0 : J3 1 = I 1 := by rw [e4 1 (by decide) (by decide) (by decide), ho 1 (by decide) (by decide) (by decide)]
    have s1 : J3 147 = ((stM (cnI J2 8) 1 (R 1).toNat 1000 (ntS J2 146 149) 0).2.1).1 := congrArg Prod.fst e2
    have s2 : J3 148 = ((stM (cnI J2 8) 1 (R 1).toNat 1000 (ntS J2 146 149) 0).2.1).2.1 := congrArg (fun z => z.2.1) e2
    have s3 : J3 149 1 = ((stM (cnI J2 8) 1 (R 1).toNat 1000 (ntS J2 146 149) 0).2.1).2.2 := congrArg (fun z => z.2.2) e2
    refine Eq.mp ?_ (p1 (by rw [← p1a]; exact e1) K (setB_rep hR0 (fun j hj => ?_) ?_ ?_ ?_ (fun a h1 h2 h6 h7 => ?_)) (fun a ha => ?_))
    · congr 5
      rw [e3]; exact p1c.symm
    · rw [(k1 j hj).1, (k1 j hj).2, s1, s2]
      exact (p1b).1 j hj
    · rw [k2, e0, r3]
      rw [e3, p1c]
    · rw [k3, e0, r4, s3, (p1b).2]
    · rw [k4 0 (by decide) (by decide), e0]
    · rw [k5 a (by omega) h6 h7, e4 a (by omega) (by omega) (by omega), ho a (by omega) (by omega) (by omega)]
    · rw [k5 a (by omega) (by omega) (by omega), e4 a (by omega) (by omega) (by omega), ho a (by omega) (by omega) (by omega)]
  · rw [hn0, b0] at e1
    rw [hn0] at e2
    obtain ⟨p1a, p1b, p1c⟩ := stM_ag (wa := 1) hcn 1000 _ _ 0 hag
    refine q_if_ne hG rfl ⟨by omega, by omega⟩ (fun q => absurd q (by decide)) (fun _ => ?_)
    refine q_aload_n hG rfl rfl ?_
    refine q_iconst (v := 5) hG rfl rfl ?_
    refine q_aload_n hG rfl rfl ?_
    refine q_getR hG rfl (by assumption) (by assumption) ?_
    refine q_getI0 hG rfl (by assumption) ?_
    refine q_callV6 hG rfl rfl rfl (by assumption) (s_X_reject hX0 ?_)
    refine q_iret0 hG rfl rfl ?_
    refine p0 p (by rw [← p1a]; exact e1) _ (rjf_up (J := J3) (fun a ha => by rw [e4 a (by omega) (by omega) (by omega), ho a (by omega) (by omega) (by omega)]) ?_)
    have e3 : J3 149 2 = J2 9 p := e3
    rw [ho 9 (by decide) (by decide) (by decide), (rc p (by omega)).1] at e3
    rw [e3]
    exact rjf_of _ _ _
theorem s_X_trialPass {d : Nat} {B : HP} {I : IM} {Post : Out → HP → Prop} (hX : LX B) {R : RW} (hR : RepC I 1 R) {q : Int} (hW : WfR q R) (hq : q ≤ 2000000000)  (p1 : (paR R 1).2 = none → ∀ J : IM, (∀ a, (a ≤ 145 ∨ 150 ≤ a) → J a = I a) → Post (.inl (some (.int (i3 ((paR R 1).1.2.2))))) (wI B J)) (p0 : ∀ p : Nat, (paR R 1).2 = some p → ∀ J : IM, (∀ a, (a ≤ 145 ∨ 150 ≤ a) → J a = I a) → Post (.inl (some (.int (i3 (-1))))) (wI B J)) : Sp (d + 4) k_X8_changesOfTrialPass [.ref 0] (wI B I) Post := by
  refine Sp_intro md_X8_changesOfTrialPass rfl rfl (fun G hG => ?_)
  have hX0 := hX
  obtain ⟨x0, x1, x2, x3, x4, x5, x6, x7, x8, x9, x10, x11, x12, x13, x14, x15, x16, x17, x18, x19, x20, x21, x22, x23, x24, x25, x26, x27, x28, x29, x30, x31, x32, x33, x34, x35, x36, x37, x38, x39, x40, x41, x42, x43, x44⟩ := hX
  obtain ⟨d1, d2, d3, d4, hF, hBd, hCo⟩ := x10
  obtain ⟨f1, f2, f3, f4, f5⟩ := hF
  obtain ⟨g1, g2, g3, g4, g5⟩ := hBd
  obtain ⟨c1, c2, c3, c4, c5, c6, c7, c8, c9, c10, c11⟩ := hCo
  obtain ⟨t1, t2, t3, t4, t5⟩ := x12
  have hR0 := hR
  obtain ⟨r0, r1, r2, r3, r4, rd, rc, ry⟩ := hR
  have r1 : I 8 0 = R 1 := r1
  have r2 : I 8 1 = R 2 := r2
  have rd : ∀ k, k < 6 → I 3 k = R (5 + 4 * k) ∧ I 4 k = R (5 + 4 * k + 1) ∧ I 6 k = R (5 + 4 * k + 2) ∧ I 7 k = R (5 + 4 * k + 3) := rd
  have rc : ∀ k : Nat, (k : Int) < R 1 → I 9 k = R (29 + 5 * k) ∧ I 10 k = R (29 + 5 * k + 1) ∧ I 11 k = R (29 + 5 * k + 2) ∧ I 12 k = R (29 + 5 * k + 3) ∧ I 13 k = R (29 + 5 * k + 4) := rc
  have ry : ∀ k, k < 10 → 0 ≤ I 10 k ∧ I 10 k < 65536 := ry
  have hW0 := hW
  obtain ⟨w0, w1, w2, w3, w4, wd, wc⟩ := hW
  show G 0 [some (.ref 0)] [] (wI B I)
  refine q_aload_n hG rfl rfl ?_
  refine q_getR hG rfl (by assumption) (by assumption) ?_
  refine q_aload_n hG rfl rfl ?_
  refine q_getR hG rfl (by assumption) (by assumption) ?_
  refine q_getR hG rfl (by assumption) (by assumption) ?_
  refine q_callV6 hG rfl rfl rfl (by assumption) (s_B_copy hX0.2.2.2.2.2.2.2.2.2.2.2.2.1 hX0.2.2.2.2.2.2.2.2.2.2.1.2.2.2.2.2.1 (by omega) (fun J1 a1 a2 a3 => ?_))
  refine q_aload_n hG rfl rfl ?_
  refine q_getR hG rfl (by assumption) (by assumption) ?_
  refine q_callV6 hG rfl rfl rfl (by assumption) (s_N_begin (by assumption) (fun J2 b0 b1 b2 b3 => ?_))
  obtain ⟨hag, hcw, hok, hn0, hcn, ho⟩ := trial_ok hR0 hW0 hq a1 a2 a3 b1 b3
  refine q_aload_n hG rfl rfl ?_
  refine q_getR hG rfl (by assumption) (by assumption) ?_
  refine q_aload_n hG rfl rfl ?_
  refine q_getR hG rfl (by assumption) (by assumption) ?_
  refine q_getR hG rfl (by assumption) (by assumption) ?_
  refine q_aload_n hG rfl rfl ?_
  refine q_getR hG rfl (by assumption) (by assumption) ?_
  refine q_iconst (v := 1) hG rfl rfl ?_
  refine q_callV6 hG rfl rfl rfl (by assumption) (s_N_pass (c := 8) (t := 146) (w := 149) (wa := 1) (I := J2) hX0.2.2.2.2.2.2.2.2.2.2.2.2.1 hX0.2.2.2.2.2.2.2.2.2.2.1.2.2.2.2.2.2 (by assumption) (by omega) (by omega) (by omega) hcw (by omega) hok (fun J3 e1 e2 e3 e3b e4 => ?_) (fun J3 p e1 e2 e3 e4 => ?_))
  · rw [hn0] at e1 e2
    obtain ⟨p1a, p1b⟩ := paM_ag (wa := 1) hcn (R 1).toNat 0 _ _ (by omega) hag
    refine q_if_eq hG rfl ⟨by omega, by omega⟩ (fun q => absurd q (by decide)) (fun _ => ?_)
    refine q_aload_n hG rfl rfl ?_
    refine q_getR hG rfl (by assumption) (by assumption) ?_
    refine q_getI0 hG rfl (by assumption) ?_
    refine q_goto hG rfl ?_
    refine q_iret0 hG rfl rfl ?_
    have s3 : J3 149 1 = (paM (cnI J2 8) 1 (R 1).toNat 0 (ntS J2 146 149)).1.2.2 := congrArg (fun z => z.2.2) e2
    rw [s3, p1a.2]
    exact p1 (by rw [← p1b]; exact e1) J3 (fun a ha => by rw [e4 a (by omega) (by omega) (by omega), ho a (by omega) (by omega) (by omega)])
  · rw [hn0] at e1 e2
    obtain ⟨p1a, p1b⟩ := paM_ag (wa := 1) hcn (R 1).toNat 0 _ _ (by omega) hag
    refine q_if_eq hG rfl ⟨by omega, by omega⟩ (fun _ => ?_) (fun q => absurd (by decide) q)
    refine q_iconst (v := -1) hG rfl rfl ?_
    refine q_iret0 hG rfl rfl ?_
    exact p0 p (by rw [← p1b]; exact e1) J3 (fun a ha => by rw [e4 a (by omega) (by omega) (by omega), ho a (by omega) (by omega) (by omega)])
theorem s_X_settleTrial {d : Nat} {B : HP} {I : IM} {Post : Out → HP → Prop} (hX : LX B) {R : RW} (hR : RepC I 1 R) {q : Int} (hW : WfR q R) (hq : q ≤ 2000000000)  (p1 : (stR2 R 0).1 = none → ∀ J : IM, (∀ a, (a ≤ 145 ∨ 150 ≤ a) → J a = I a) → (∀ k, k < 6 → J 147 k = (stR2 R 0).2.1.1 k) → Post (.inl (some (.int (i3 1)))) (wI B J)) (p0 : ∀ p : Nat, (stR2 R 0).1 = some p → ∀ J : IM, (∀ a, (a ≤ 145 ∨ 150 ≤ a) → J a = I a) → Post (.inl (some (.int (i3 0)))) (wI B J)) : Sp (d + 5) k_X8_settleTrialWithoutApart [.ref 0] (wI B I) Post := by
  refine Sp_intro md_X8_settleTrialWithoutApart rfl rfl (fun G hG => ?_)
  have hX0 := hX
  obtain ⟨x0, x1, x2, x3, x4, x5, x6, x7, x8, x9, x10, x11, x12, x13, x14, x15, x16, x17, x18, x19, x20, x21, x22, x23, x24, x25, x26, x27, x28, x29, x30, x31, x32, x33, x34, x35, x36, x37, x38, x39, x40, x41, x42, x43, x44⟩ := hX
  obtain ⟨d1, d2, d3, d4, hF, hBd, hCo⟩ := x10
  obtain ⟨f1, f2, f3, f4, f5⟩ := hF
  obtain ⟨g1, g2, g3, g4, g5⟩ := hBd
  obtain ⟨c1, c2, c3, c4, c5, c6, c7, c8, c9, c10, c11⟩ := hCo
  obtain ⟨t1, t2, t3, t4, t5⟩ := x12
  have hR0 := hR
  obtain ⟨r0, r1, r2, r3, r4, rd, rc, ry⟩ := hR
  have r1 : I 8 0 = R 1 := r1
  have r2 : I 8 1 = R 2 := r2
  have rd : ∀ k, k < 6 → I 3 k = R (5 + 4 * k) ∧ I 4 k = R (5 + 4 * k + 1) ∧ I 6 k = R (5 + 4 * k + 2) ∧ I 7 k = R (5 + 4 * k + 3) := rd
  have rc : ∀ k : Nat, (k : Int) < R 1 → I 9 k = R (29 + 5 * k) ∧ I 10 k = R (29 + 5 * k + 1) ∧ I 11 k = R (29 + 5 * k + 2) ∧ I 12 k = R (29 + 5 * k + 3) ∧ I 13 k = R (29 + 5 * k + 4) := rc
  have ry : ∀ k, k < 10 → 0 ≤ I 10 k ∧ I 10 k < 65536 := ry
  have hW0 := hW
  obtain ⟨w0, w1, w2, w3, w4, wd, wc⟩ := hW
  show G 0 [some (.ref 0)] [] (wI B I)
  refine q_aload_n hG rfl rfl ?_
  refine q_getR hG rfl (by assumption) (by assumption) ?_
  refine q_aload_n hG rfl rfl ?_
  refine q_getR hG rfl (by assumption) (by assumption) ?_
  refine q_getR hG rfl (by assumption) (by assumption) ?_
  refine q_callV6 hG rfl rfl rfl (by assumption) (s_B_copy hX0.2.2.2.2.2.2.2.2.2.2.2.2.1 hX0.2.2.2.2.2.2.2.2.2.2.1.2.2.2.2.2.1 (by omega) (fun J1 a1 a2 a3 => ?_))
  refine q_aload_n hG rfl rfl ?_
  refine q_getR hG rfl (by assumption) (by assumption) ?_
  refine q_callV6 hG rfl rfl rfl (by assumption) (s_N_begin (by assumption) (fun J2 b0 b1 b2 b3 => ?_))
  obtain ⟨hag, hcw, hok, hn0, hcn, ho⟩ := trial_ok hR0 hW0 hq a1 a2 a3 b1 b3
  refine q_aload_n hG rfl rfl ?_
  refine q_getR hG rfl (by assumption) (by assumption) ?_
  refine q_aload_n hG rfl rfl ?_
  refine q_getR hG rfl (by assumption) (by assumption) ?_
  refine q_getR hG rfl (by assumption) (by assumption) ?_
  refine q_aload_n hG rfl rfl ?_
  refine q_getR hG rfl (by assumption) (by assumption) ?_
  refine q_iconst (v := 0) hG rfl rfl ?_
  refine q_callV6 hG rfl rfl rfl (by assumption) (s_N_end (c := 8) (t := 146) (w := 149) (wa := 0) (I := J2) hX0.2.2.2.2.2.2.2.2.2.2.2.2.1 hX0.2.2.2.2.2.2.2.2.2.2.1.2.2.2.2.2.2 (by assumption) (by omega) (by omega) (by omega) hcw (by omega) hok (by omega) (fun J3 e1 e2 e3 e4 => ?_) (fun J3 p e1 e2 e3 e4 => ?_))
  · rw [hn0, b0] at e1 e2 e3
    obtain ⟨p1a, p1b, p1c⟩ := stM_ag (wa := 0) hcn 1000 _ _ 0 hag
    refine q_iret5 hG rfl rfl (by decide) ?_
    have s1 : J3 147 = (stM (cnI J2 8) 0 (R 1).toNat 1000 (ntS J2 146 149) 0).2.1.1 := congrArg Prod.fst e2
    exact p1 (by rw [← p1a]; exact e1) J3 (fun a ha => by rw [e4 a (by omega) (by omega) (by omega), ho a (by omega) (by omega) (by omega)]) (fun k hk => by rw [s1]; exact (p1b.1 k hk).1)
  · rw [hn0, b0] at e1
    rw [hn0] at e2
    obtain ⟨p1a, p1b, p1c⟩ := stM_ag (wa := 0) hcn 1000 _ _ 0 hag
    refine q_iret5 hG rfl rfl (by decide) ?_
    exact p0 p (by rw [← p1a]; exact e1) J3 (fun a ha => by rw [e4 a (by omega) (by omega) (by omega), ho a (by omega) (by omega) (by omega)])
