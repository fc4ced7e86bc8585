/-! the class: its changes -/
theorem df_eq {u v : Int} (h : u = v) : df u v = 0 := if_pos h
theorem df_ne {u v : Int} (h : ¬ u = v) : df u v = 1 := if_neg h
theorem rjf_of (I : IM) (r e : Int) : rjf I (st (st I 0 11 r) 0 12 e) r e := by
  refine ⟨?_, fun a ha => ?_⟩
  · funext k
    show (if 0 = 0 ∧ k = 12 then e else if 0 = 0 ∧ k = 11 then r else I 0 k) = _
    by_cases h1 : k = 11
    · subst h1; rfl
    · by_cases h2 : k = 12
      · subst h2; rfl
      · rw [if_neg (by omega), if_neg (by omega), if_neg h1, if_neg h2]
  · rw [st_row _ _ (by omega), st_row _ _ (by omega)]
theorem rjf_up {I J K : IM} {r e : Int} (h : ∀ a, (a ≤ 145 ∨ 150 ≤ a) → J a = I a) (h2 : rjf J K r e) : rjf I K r e := ⟨by rw [h2.1, h 0 (by omega)], fun a ha => (h2.2 a ha).trans (h a (by omega))⟩
theorem rjf.c {I J : IM} {r e : Int} {R : RW} (h : rjf I J r e) (hR : RepC I 1 R) : RepC J 1 R := hR.row (fun a h1 h2 => h.2 a (by omega))

theorem s_X_enterDoor {d : Nat} {B : HP} {I : IM} {Post : Out → HP → Prop} (hX : LX B) {R : RW} (hR : RepC I 1 R) {q : Int} (hW : WfR q R) (hq : q ≤ 2000000000) {lo hi : Int} (p1 : R 0 < 6 → ∀ J : IM, RepC J 1 (addR R lo hi) → dfr I J → Post (.inl (some (.int (i3 (R 0))))) (wI B J)) (p0 : R 0 = 6 → ∀ J : IM, rjf I J 1 (6) → Post (.inl (some (.int (i3 (-1))))) (wI B J)) : Sp (d + 2) k_X8_enterDoor [.ref 0, .int (i3 (lo)), .int (i3 (hi))] (wI B I) Post := by
  refine Sp_intro md_X8_enterDoor rfl rfl (fun G hG => ?_)
  have hX0 := hX
  obtain ⟨x0, x1, x2, x3, x4, x5, x6, x7, x8, x9, x10, x11, x12, x13, x14, x15, x16, x17, x18, x19, x20, x21, x22, x23, x24, x25, x26, x27, x28, x29, x30, x31, x32, x33, x34, x35, x36, x37, x38, x39, x40, x41, x42, x43, x44⟩ := hX
  obtain ⟨d1, d2, d3, d4, hF, hBd, hCo⟩ := x10
  obtain ⟨f1, f2, f3, f4, f5⟩ := hF
  obtain ⟨g1, g2, g3, g4, g5⟩ := hBd
  obtain ⟨c1, c2, c3, c4, c5, c6, c7, c8, c9, c10, c11⟩ := hCo
  obtain ⟨t1, t2, t3, t4, t5⟩ := x12
  have hR0 := hR
  obtain ⟨r0, r1, r2, r3, r4, rd, rc, ry⟩ := hR
  have r1 : I 8 0 = R 1 := r1
  have r2 : I 8 1 = R 2 := r2
  have rd : ∀ k, k < 6 → I 3 k = R (5 + 4 * k) ∧ I 4 k = R (5 + 4 * k + 1) ∧ I 6 k = R (5 + 4 * k + 2) ∧ I 7 k = R (5 + 4 * k + 3) := rd
  have rc : ∀ k : Nat, (k : Int) < R 1 → I 9 k = R (29 + 5 * k) ∧ I 10 k = R (29 + 5 * k + 1) ∧ I 11 k = R (29 + 5 * k + 2) ∧ I 12 k = R (29 + 5 * k + 3) ∧ I 13 k = R (29 + 5 * k + 4) := rc
  have ry : ∀ k, k < 10 → 0 ≤ I 10 k ∧ I 10 k < 65536 := ry
  have hW0 := hW
  obtain ⟨w0, w1, w2, w3, w4, wd, wc⟩ := hW
  show G 0 [some (.ref 0), some (.int (i3 (lo))), some (.int (i3 (hi))), none] [] (wI B I)
  refine q_aload_n hG rfl rfl ?_
  refine q_getR hG rfl (by assumption) (by assumption) ?_
  refine q_getI0v (v := R 0) hG rfl (by assumption) (r0) ?_
  refine q_bipush (v := 6) hG rfl rfl ?_
  refine q_icmp_lt hG rfl ⟨by omega, by omega⟩ ⟨by omega, by omega⟩ (fun hc9 => ?_) (fun hc9 => ?_)
  · refine q_aload_n hG rfl rfl ?_
    refine q_getR hG rfl (by assumption) (by assumption) ?_
    refine q_getI0v (v := R 0) hG rfl (by assumption) (r0) ?_
    refine q_istore_n hG rfl rfl ?_
    refine q_aload_n hG rfl rfl ?_
    refine q_getR hG rfl (by assumption) (by assumption) ?_
    refine q_getR hG rfl (by assumption) (by assumption) ?_
    refine q_iload_n hG rfl rfl ?_
    refine q_iload_n hG rfl rfl ?_
    refine q_iload_n hG rfl rfl ?_
    refine q_callV6 hG rfl rfl rfl (by assumption) (s_B_put hX0.2.2.2.2.2.2.2.2.2.2.1.2.2.2.2.1 ⟨by omega, by omega⟩ ?_)
    refine q_aload_n hG rfl rfl ?_
    refine q_getR hG rfl (by assumption) (by assumption) ?_
    refine q_getR hG rfl (by assumption) (by assumption) ?_
    refine q_iload_n hG rfl rfl ?_
    refine q_iload_n hG rfl rfl ?_
    refine q_iload_n hG rfl rfl ?_
    refine q_callV6 hG rfl rfl rfl (by assumption) (s_B_put hX0.2.2.2.2.2.2.2.2.2.2.1.2.2.2.2.2.1 ⟨by omega, by omega⟩ ?_)
    refine q_aload_n hG rfl rfl ?_
    refine q_getR hG rfl (by assumption) (by assumption) ?_
    refine q_dup hG rfl rfl ?_
    refine q_getI0v (v := R 0) hG rfl (by assumption) (by rw [st_row _ _ (by decide), st_row _ _ (by decide), st_row _ _ (by decide), st_row _ _ (by decide)]; exact r0) ?_
    refine q_iconst (v := 1) hG rfl rfl ?_
    refine q_iadd hG rfl ?_
    refine q_putI0 hG rfl (by assumption) ?_
    refine q_iload_n hG rfl rfl ?_
    refine q_iret0 hG rfl rfl ?_
    have e3 : st (st (st (st (st I 3 (R 0).toNat lo) 4 (R 0).toNat hi) 6 (R 0).toNat lo) 7 (R 0).toNat hi) 1 0 (R 0 + 1) 3 = upf (I 3) (R 0).toNat lo := by rw [st_row _ _ (by decide), st_row _ _ (by decide), st_row _ _ (by decide), st_row _ _ (by decide), st_fn]
    have e4 : st (st (st (st (st I 3 (R 0).toNat lo) 4 (R 0).toNat hi) 6 (R 0).toNat lo) 7 (R 0).toNat hi) 1 0 (R 0 + 1) 4 = upf (I 4) (R 0).toNat hi := by rw [st_row _ _ (by decide), st_row _ _ (by decide), st_row _ _ (by decide), st_fn, st_row _ _ (by decide)]
    have e6 : st (st (st (st (st I 3 (R 0).toNat lo) 4 (R 0).toNat hi) 6 (R 0).toNat lo) 7 (R 0).toNat hi) 1 0 (R 0 + 1) 6 = upf (I 6) (R 0).toNat lo := by rw [st_row _ _ (by decide), st_row _ _ (by decide), st_fn, st_row _ _ (by decide), st_row _ _ (by decide)]
    have e7 : st (st (st (st (st I 3 (R 0).toNat lo) 4 (R 0).toNat hi) 6 (R 0).toNat lo) 7 (R 0).toNat hi) 1 0 (R 0 + 1) 7 = upf (I 7) (R 0).toNat hi := by rw [st_row _ _ (by decide), st_fn, st_row _ _ (by decide), st_row _ _ (by decide), st_row _ _ (by decide)]
    have eo : ∀ a, a ≠ 1 → a ≠ 3 → a ≠ 4 → a ≠ 6 → a ≠ 7 → st (st (st (st (st I 3 (R 0).toNat lo) 4 (R 0).toNat hi) 6 (R 0).toNat lo) 7 (R 0).toNat hi) 1 0 (R 0 + 1) a = I a := fun a h1 h3 h4 h6 h7 => by rw [st_row _ _ h1, st_row _ _ h7, st_row _ _ h6, st_row _ _ h4, st_row _ _ h3]
    have e1 : ∀ j, j ≠ 0 → st (st (st (st (st I 3 (R 0).toNat lo) 4 (R 0).toNat hi) 6 (R 0).toNat lo) 7 (R 0).toNat hi) 1 0 (R 0 + 1) 1 j = I 1 j := fun j hj => by rw [st_ne _ _ (by omega), st_row _ _ (by decide), st_row _ _ (by decide), st_row _ _ (by decide), st_row _ _ (by decide)]
    refine p1 (by omega) _ ⟨?_, ?_, ?_, ?_, ?_, fun k hk => ?_, fun k hk => ?_, fun k hk => ?_⟩ (fun a ha => eo a (by omega) (by omega) (by omega) (by omega) (by omega))
    · rw [st_same]; rfl
    · rw [eo _ (by decide) (by decide) (by decide) (by decide) (by decide), addR_o _ _ _ (by omega) (by omega)]; exact r1
    · rw [eo _ (by decide) (by decide) (by decide) (by decide) (by decide), addR_o _ _ _ (by omega) (by omega)]; exact r2
    · rw [e1 _ (by decide), addR_o _ _ _ (by omega) (by omega)]; exact r3
    · rw [e1 _ (by decide), addR_o _ _ _ (by omega) (by omega)]; exact r4
    · obtain ⟨a1, a2, a3, a4⟩ := addR_k R lo hi k
      rw [a1, a2, a3, a4, e3, e4, e6, e7]
      exact ⟨upf_ag (fun k hk => (rd k hk).1) k hk, upf_ag (fun k hk => (rd k hk).2.1) k hk, upf_ag (fun k hk => (rd k hk).2.2.1) k hk, upf_ag (fun k hk => (rd k hk).2.2.2) k hk⟩
    · have hk : (k : Int) < R 1 := by rw [← addR_o R lo hi (j := 1) (by omega) (by omega)]; exact hk
      rw [eo _ (by decide) (by decide) (by decide) (by decide) (by decide), eo _ (by decide) (by decide) (by decide) (by decide) (by decide), eo _ (by decide) (by decide) (by decide) (by decide) (by decide), eo _ (by decide) (by decide) (by decide) (by decide) (by decide), eo _ (by decide) (by decide) (by decide) (by decide) (by decide), addR_o _ _ _ (by omega) (by omega), addR_o _ _ _ (by omega) (by omega), addR_o _ _ _ (by omega) (by omega), addR_o _ _ _ (by omega) (by omega), addR_o _ _ _ (by omega) (by omega)]
      exact rc k hk
    · rw [eo _ (by decide) (by decide) (by decide) (by decide) (by decide)]
      exact ry k hk
  · refine q_aload_n hG rfl rfl ?_
    refine q_iconst (v := 1) hG rfl rfl ?_
    refine q_bipush (v := 6) hG rfl rfl ?_
    refine q_callV6 hG rfl rfl rfl (by assumption) (s_X_reject hX0 ?_)
    refine q_iret0 hG rfl rfl ?_
    exact p0 (by omega) _ (rjf_of _ _ _)
theorem s_X_changeFrame {d : Nat} {B : HP} {I : IM} {Post : Out → HP → Prop} (hX : LX B) {R : RW} (hR : RepC I 1 R) {q : Int} (hW : WfR q R) (hq : q ≤ 2000000000) {x lo hi : Int} (hx : 0 ≤ x ∧ x < R 0) (hr : rngP lo hi) (p1 : ∀ J : IM, RepC J 1 (frmR R x.toNat lo hi) → dfr I J → Post (.inl (some (.int (i3 (unl R (frmR R x.toNat lo hi)))))) (wI B J)) : Sp (d + 3) k_X8_changeFrame [.ref 0, .int (i3 (x)), .int (i3 (lo)), .int (i3 (hi))] (wI B I) Post := by
  refine Sp_intro md_X8_changeFrame rfl rfl (fun G hG => ?_)
  have hX0 := hX
  obtain ⟨x0, x1, x2, x3, x4, x5, x6, x7, x8, x9, x10, x11, x12, x13, x14, x15, x16, x17, x18, x19, x20, x21, x22, x23, x24, x25, x26, x27, x28, x29, x30, x31, x32, x33, x34, x35, x36, x37, x38, x39, x40, x41, x42, x43, x44⟩ := hX
  obtain ⟨d1, d2, d3, d4, hF, hBd, hCo⟩ := x10
  obtain ⟨f1, f2, f3, f4, f5⟩ := hF
  obtain ⟨g1, g2, g3, g4, g5⟩ := hBd
  obtain ⟨c1, c2, c3, c4, c5, c6, c7, c8, c9, c10, c11⟩ := hCo
  obtain ⟨t1, t2, t3, t4, t5⟩ := x12
  have hR0 := hR
  obtain ⟨r0, r1, r2, r3, r4, rd, rc, ry⟩ := hR
  have r1 : I 8 0 = R 1 := r1
  have r2 : I 8 1 = R 2 := r2
  have rd : ∀ k, k < 6 → I 3 k = R (5 + 4 * k) ∧ I 4 k = R (5 + 4 * k + 1) ∧ I 6 k = R (5 + 4 * k + 2) ∧ I 7 k = R (5 + 4 * k + 3) := rd
  have rc : ∀ k : Nat, (k : Int) < R 1 → I 9 k = R (29 + 5 * k) ∧ I 10 k = R (29 + 5 * k + 1) ∧ I 11 k = R (29 + 5 * k + 2) ∧ I 12 k = R (29 + 5 * k + 3) ∧ I 13 k = R (29 + 5 * k + 4) := rc
  have ry : ∀ k, k < 10 → 0 ≤ I 10 k ∧ I 10 k < 65536 := ry
  have hW0 := hW
  obtain ⟨w0, w1, w2, w3, w4, wd, wc⟩ := hW
  obtain ⟨z1, z2, z3⟩ := hr
  have hx6 : x.toNat < 6 := by omega
  have e3 : st (st I 3 x.toNat lo) 4 x.toNat hi 3 = upf (I 3) x.toNat lo := by rw [st_row _ _ (by decide), st_fn]
  have e4 : st (st I 3 x.toNat lo) 4 x.toNat hi 4 = upf (I 4) x.toNat hi := by rw [st_fn, st_row _ _ (by decide)]
  have eo : ∀ a, a ≠ 3 → a ≠ 4 → st (st I 3 x.toNat lo) 4 x.toNat hi a = I a := fun a h3 h4 => by rw [st_row _ _ h4, st_row _ _ h3]
  have hrk : ∀ k, k < 6 → rD (st (st I 3 x.toNat lo) 4 x.toNat hi) 1 k := fun k hk => by
    obtain ⟨u1, u2, u3, u4⟩ := rd k hk
    have u := (wd k hk).1
    show r32 (st (st I 3 x.toNat lo) 4 x.toNat hi 3 k) ∧ r32 (st (st I 3 x.toNat lo) 4 x.toNat hi 4 k) ∧ r32 (st (st I 3 x.toNat lo) 4 x.toNat hi 6 k) ∧ r32 (st (st I 3 x.toNat lo) 4 x.toNat hi 7 k)
    rw [e3, e4, eo 6 (by decide) (by decide), eo 7 (by decide) (by decide), u3, u4]
    unfold upf
    refine ⟨?_, ?_, ⟨by omega, by omega⟩, ⟨by omega, by omega⟩⟩
    · split
      · exact ⟨by omega, by omega⟩
      · exact ⟨by omega, by omega⟩
    · split
      · exact ⟨by omega, by omega⟩
      · exact ⟨by omega, by omega⟩
  show G 0 [some (.ref 0), some (.int (i3 (x))), some (.int (i3 (lo))), some (.int (i3 (hi)))] [] (wI B I)
  refine q_aload_n hG rfl rfl ?_
  refine q_getR hG rfl (by assumption) (by assumption) ?_
  refine q_getR hG rfl (by assumption) (by assumption) ?_
  refine q_iload_n hG rfl rfl ?_
  refine q_iload_n hG rfl rfl ?_
  refine q_iload_n hG rfl rfl ?_
  refine q_callV6 hG rfl rfl rfl (by assumption) (s_B_put hX0.2.2.2.2.2.2.2.2.2.2.1.2.2.2.2.1 ⟨by omega, by omega⟩ ?_)
  refine q_aload_n hG rfl rfl ?_
  refine q_getR hG rfl (by assumption) (by assumption) ?_
  refine q_callV6 hG rfl rfl rfl (by assumption) (s_D_open hX0.2.2.2.2.2.2.2.2.2.2.1 (by rw [eo 1 (by decide) (by decide), r0]; exact w0) hrk (fun J j1 j2 j3 => ?_))
  refine q_iret0 hG rfl rfl ?_
  have j1 : ∀ j, j < 6 → J 6 j = upf (I 3) x.toNat lo j := fun j hj => by rw [← e3]; exact j1 j hj
  have j2 : ∀ j, j < 6 → J 7 j = upf (I 4) x.toNat hi j := fun j hj => by rw [← e4]; exact j2 j hj
  have j3 : ∀ a, a ≠ 6 → a ≠ 7 → J a = st (st I 3 x.toNat lo) 4 x.toNat hi a := j3
  have en : unl R (frmR R x.toNat lo hi) = sm (fun k => df (st (st I 3 x.toNat lo) 4 x.toNat hi (1 + 5) k) (st (st I 3 x.toNat lo) 4 x.toNat hi (1 + 2) k) + df (st (st I 3 x.toNat lo) 4 x.toNat hi (1 + 6) k) (st (st I 3 x.toNat lo) 4 x.toNat hi (1 + 3) k)) (st (st I 3 x.toNat lo) 4 x.toNat hi 1 0).toNat := by
    rw [eo 1 (by decide) (by decide), r0]
    unfold unl
    refine sm_congr _ (fun k hk => ?_)
    have hk6 : k < 6 := by omega
    obtain ⟨a1, a2, a3, a4⟩ := frm_k R x.toNat lo hi k hk6
    obtain ⟨u1, u2, u3, u4⟩ := rd k hk6
    show df _ _ + df _ _ = df (st (st I 3 x.toNat lo) 4 x.toNat hi 6 k) (st (st I 3 x.toNat lo) 4 x.toNat hi 3 k) + df (st (st I 3 x.toNat lo) 4 x.toNat hi 7 k) (st (st I 3 x.toNat lo) 4 x.toNat hi 4 k)
    rw [a3, a4, e3, e4, eo 6 (by decide) (by decide), eo 7 (by decide) (by decide), u3, u4, upf_ag (fun k hk => (rd k hk).1) k hk6, upf_ag (fun k hk => (rd k hk).2.1) k hk6]
  rw [← en]
  refine p1 J ⟨?_, ?_, ?_, ?_, ?_, fun k hk => ?_, fun k hk => ?_, fun k hk => ?_⟩ (fun a ha => by rw [j3 a (by omega) (by omega), eo a (by omega) (by omega)])
  · rw [j3 _ (by decide) (by decide), eo _ (by decide) (by decide), frm_o _ _ _ _ hx6 (by omega)]; exact r0
  · rw [j3 _ (by decide) (by decide), eo _ (by decide) (by decide), frm_o _ _ _ _ hx6 (by omega)]; exact r1
  · rw [j3 _ (by decide) (by decide), eo _ (by decide) (by decide), frm_o _ _ _ _ hx6 (by omega)]; exact r2
  · rw [j3 _ (by decide) (by decide), eo _ (by decide) (by decide), frm_o _ _ _ _ hx6 (by omega)]; exact r3
  · rw [j3 _ (by decide) (by decide), eo _ (by decide) (by decide), frm_o _ _ _ _ hx6 (by omega)]; exact r4
  · obtain ⟨a1, a2, a3, a4⟩ := frm_k R x.toNat lo hi k hk
    rw [a1, a2, a3, a4]
    have v1 := upf_ag (x := x.toNat) (v := lo) (fun k hk => (rd k hk).1) k hk
    have v2 := upf_ag (x := x.toNat) (v := hi) (fun k hk => (rd k hk).2.1) k hk
    refine ⟨?_, ?_, (j1 k hk).trans v1, (j2 k hk).trans v2⟩
    · rw [j3 _ (by decide) (by decide)]; exact (congrFun e3 k).trans v1
    · rw [j3 _ (by decide) (by decide)]; exact (congrFun e4 k).trans v2
  · have hk : (k : Int) < R 1 := by rw [← frm_o R x.toNat lo hi hx6 (j := 1) (by omega)]; exact hk
    rw [j3 _ (by decide) (by decide), j3 _ (by decide) (by decide), j3 _ (by decide) (by decide), j3 _ (by decide) (by decide), j3 _ (by decide) (by decide), eo _ (by decide) (by decide), eo _ (by decide) (by decide), eo _ (by decide) (by decide), eo _ (by decide) (by decide), eo _ (by decide) (by decide), frm_o _ _ _ _ hx6 (by omega), frm_o _ _ _ _ hx6 (by omega), frm_o _ _ _ _ hx6 (by omega), frm_o _ _ _ _ hx6 (by omega), frm_o _ _ _ _ hx6 (by omega)]
    exact rc k hk
  · rw [j3 _ (by decide) (by decide), eo _ (by decide) (by decide)]
    exact ry k hk
theorem s_X_narrowDoor {d : Nat} {B : HP} {I : IM} {Post : Out → HP → Prop} (hX : LX B) {R : RW} (hR : RepC I 1 R) {q : Int} (hW : WfR q R) (hq : q ≤ 2000000000) {x lo hi : Int} (hx : 0 ≤ x ∧ x < R 0) (hr : rngP lo hi) (p1 : (if R (5 + 4 * x.toNat + 2) < lo then lo else R (5 + 4 * x.toNat + 2)) ≤ (if hi < R (5 + 4 * x.toNat + 3) then hi else R (5 + 4 * x.toNat + 3)) → ∀ J : IM, RepC J 1 (narR R x.toNat (if R (5 + 4 * x.toNat + 2) < lo then lo else R (5 + 4 * x.toNat + 2)) (if hi < R (5 + 4 * x.toNat + 3) then hi else R (5 + 4 * x.toNat + 3))) → dfr I J → Post (.inl (some (.int (i3 (df (if R (5 + 4 * x.toNat + 2) < lo then lo else R (5 + 4 * x.toNat + 2)) (R (5 + 4 * x.toNat + 2)) + df (if hi < R (5 + 4 * x.toNat + 3) then hi else R (5 + 4 * x.toNat + 3)) (R (5 + 4 * x.toNat + 3))))))) (wI B J)) (p0 : (if hi < R (5 + 4 * x.toNat + 3) then hi else R (5 + 4 * x.toNat + 3)) < (if R (5 + 4 * x.toNat + 2) < lo then lo else R (5 + 4 * x.toNat + 2)) → ∀ J : IM, rjf I J 4 (R (5 + 4 * x.toNat + 2)) → Post (.inl (some (.int (i3 (-1))))) (wI B J)) : Sp (d + 2) k_X8_narrowDoor [.ref 0, .int (i3 (x)), .int (i3 (lo)), .int (i3 (hi))] (wI B I) Post := by
  refine Sp_intro md_X8_narrowDoor rfl rfl (fun G hG => ?_)
  have hX0 := hX
  obtain ⟨x0, x1, x2, x3, x4, x5, x6, x7, x8, x9, x10, x11, x12, x13, x14, x15, x16, x17, x18, x19, x20, x21, x22, x23, x24, x25, x26, x27, x28, x29, x30, x31, x32, x33, x34, x35, x36, x37, x38, x39, x40, x41, x42, x43, x44⟩ := hX
  obtain ⟨d1, d2, d3, d4, hF, hBd, hCo⟩ := x10
  obtain ⟨f1, f2, f3, f4, f5⟩ := hF
  obtain ⟨g1, g2, g3, g4, g5⟩ := hBd
  obtain ⟨c1, c2, c3, c4, c5, c6, c7, c8, c9, c10, c11⟩ := hCo
  obtain ⟨t1, t2, t3, t4, t5⟩ := x12
  have hR0 := hR
  obtain ⟨r0, r1, r2, r3, r4, rd, rc, ry⟩ := hR
  have r1 : I 8 0 = R 1 := r1
  have r2 : I 8 1 = R 2 := r2
  have rd : ∀ k, k < 6 → I 3 k = R (5 + 4 * k) ∧ I 4 k = R (5 + 4 * k + 1) ∧ I 6 k = R (5 + 4 * k + 2) ∧ I 7 k = R (5 + 4 * k + 3) := rd
  have rc : ∀ k : Nat, (k : Int) < R 1 → I 9 k = R (29 + 5 * k) ∧ I 10 k = R (29 + 5 * k + 1) ∧ I 11 k = R (29 + 5 * k + 2) ∧ I 12 k = R (29 + 5 * k + 3) ∧ I 13 k = R (29 + 5 * k + 4) := rc
  have ry : ∀ k, k < 10 → 0 ≤ I 10 k ∧ I 10 k < 65536 := ry
  have hW0 := hW
  obtain ⟨w0, w1, w2, w3, w4, wd, wc⟩ := hW
  obtain ⟨z1, z2, z3⟩ := hr
  have hx6 : x.toNat < 6 := by omega
  obtain ⟨u1, u2, u3, u4⟩ := rd x.toNat hx6
  have u := (wd x.toNat hx6).1
  show G 0 [some (.ref 0), some (.int (i3 (x))), some (.int (i3 (lo))), some (.int (i3 (hi))), none, none, none, none] [] (wI B I)
  refine q_aload_n hG rfl rfl ?_
  refine q_getR hG rfl (by assumption) (by assumption) ?_
  refine q_getR hG rfl (by assumption) (by assumption) ?_
  refine q_getR hG rfl (by assumption) (by assumption) ?_
  refine q_iload_n hG rfl rfl ?_
  refine q_ialdv (v := R (5 + 4 * x.toNat + 2)) hG rfl (by assumption) ⟨by omega, by omega, by omega⟩ (u3) ?_
  refine q_istore hG rfl rfl ?_
  refine q_aload_n hG rfl rfl ?_
  refine q_getR hG rfl (by assumption) (by assumption) ?_
  refine q_getR hG rfl (by assumption) (by assumption) ?_
  refine q_getR hG rfl (by assumption) (by assumption) ?_
  refine q_iload_n hG rfl rfl ?_
  refine q_ialdv (v := R (5 + 4 * x.toNat + 3)) hG rfl (by assumption) ⟨by omega, by omega, by omega⟩ (u4) ?_
  refine q_istore hG rfl rfl ?_
  refine q_iload hG rfl rfl ?_
  refine q_iload_n hG rfl rfl ?_
  refine q_max hG rfl ⟨by omega, by omega⟩ ⟨by omega, by omega⟩ rfl ?_
  refine q_istore hG rfl rfl ?_
  refine q_iload hG rfl rfl ?_
  refine q_iload_n hG rfl rfl ?_
  refine q_min hG rfl ⟨by omega, by omega⟩ ⟨by omega, by omega⟩ rfl ?_
  refine q_istore hG rfl rfl ?_
  refine q_iload hG rfl rfl ?_
  refine q_iload hG rfl rfl ?_
  refine q_icmp_le hG rfl (by split <;> exact ⟨by omega, by omega⟩) (by split <;> exact ⟨by omega, by omega⟩) (fun hc48 => ?_) (fun hc48 => ?_)
  · refine q_aload_n hG rfl rfl ?_
    refine q_getR hG rfl (by assumption) (by assumption) ?_
    refine q_getR hG rfl (by assumption) (by assumption) ?_
    refine q_iload_n hG rfl rfl ?_
    refine q_iload hG rfl rfl ?_
    refine q_iload hG rfl rfl ?_
    refine q_callV6 hG rfl rfl rfl (by assumption) (s_B_put hX0.2.2.2.2.2.2.2.2.2.2.1.2.2.2.2.2.1 ⟨by omega, by omega⟩ ?_)
    refine q_iload hG rfl rfl ?_
    refine q_iload hG rfl rfl ?_
    refine q_icmp_eq hG rfl (by split <;> exact ⟨by omega, by omega⟩) ⟨by omega, by omega⟩ (fun hc78 => ?_) (fun hc78 => ?_)
    · refine q_iconst (v := 0) hG rfl rfl ?_
      refine q_iload hG rfl rfl ?_
      refine q_iload hG rfl rfl ?_
      refine q_icmp_eq hG rfl (by split <;> exact ⟨by omega, by omega⟩) ⟨by omega, by omega⟩ (fun hc90 => ?_) (fun hc90 => ?_)
      · refine q_iconst (v := 0) hG rfl rfl ?_
        refine q_iadd hG rfl ?_
        refine q_iret0 hG rfl rfl ?_
        have eo : ∀ a, a ≠ 6 → a ≠ 7 → st (st I 6 x.toNat (if R (5 + 4 * x.toNat + 2) < lo then lo else R (5 + 4 * x.toNat + 2))) 7 x.toNat (if hi < R (5 + 4 * x.toNat + 3) then hi else R (5 + 4 * x.toNat + 3)) a = I a := fun a h3 h4 => by rw [st_row _ _ h4, st_row _ _ h3]
        have e6 : st (st I 6 x.toNat (if R (5 + 4 * x.toNat + 2) < lo then lo else R (5 + 4 * x.toNat + 2))) 7 x.toNat (if hi < R (5 + 4 * x.toNat + 3) then hi else R (5 + 4 * x.toNat + 3)) 6 = upf (I 6) x.toNat (if R (5 + 4 * x.toNat + 2) < lo then lo else R (5 + 4 * x.toNat + 2)) := by rw [st_row _ _ (by decide), st_fn]
        have e7 : st (st I 6 x.toNat (if R (5 + 4 * x.toNat + 2) < lo then lo else R (5 + 4 * x.toNat + 2))) 7 x.toNat (if hi < R (5 + 4 * x.toNat + 3) then hi else R (5 + 4 * x.toNat + 3)) 7 = upf (I 7) x.toNat (if hi < R (5 + 4 * x.toNat + 3) then hi else R (5 + 4 * x.toNat + 3)) := by rw [st_fn, st_row _ _ (by decide)]
        refine Eq.mp ?_ (p1 (by omega) (st (st I 6 x.toNat (if R (5 + 4 * x.toNat + 2) < lo then lo else R (5 + 4 * x.toNat + 2))) 7 x.toNat (if hi < R (5 + 4 * x.toNat + 3) then hi else R (5 + 4 * x.toNat + 3))) ⟨?_, ?_, ?_, ?_, ?_, fun k hk => ?_, fun k hk => ?_, fun k hk => ?_⟩ (fun a ha => eo a (by omega) (by omega)))
        · congr 5
          first
          | rw [df_eq (by omega), df_eq (by omega)]
          | rw [df_eq (by omega), df_ne (by omega)]
          | rw [df_ne (by omega), df_eq (by omega)]
          | rw [df_ne (by omega), df_ne (by omega)]
        · rw [eo _ (by decide) (by decide), nar_o _ _ _ _ hx6 (by omega)]; exact r0
        · rw [eo _ (by decide) (by decide), nar_o _ _ _ _ hx6 (by omega)]; exact r1
        · rw [eo _ (by decide) (by decide), nar_o _ _ _ _ hx6 (by omega)]; exact r2
        · rw [eo _ (by decide) (by decide), nar_o _ _ _ _ hx6 (by omega)]; exact r3
        · rw [eo _ (by decide) (by decide), nar_o _ _ _ _ hx6 (by omega)]; exact r4
        · obtain ⟨a1, a2, a3, a4⟩ := nar_k R x.toNat (if R (5 + 4 * x.toNat + 2) < lo then lo else R (5 + 4 * x.toNat + 2)) (if hi < R (5 + 4 * x.toNat + 3) then hi else R (5 + 4 * x.toNat + 3)) k
          rw [a1, a2, a3, a4, e6, e7, eo _ (by decide) (by decide), eo _ (by decide) (by decide)]
          exact ⟨(rd k hk).1, (rd k hk).2.1, upf_ag (fun k hk => (rd k hk).2.2.1) k hk, upf_ag (fun k hk => (rd k hk).2.2.2) k hk⟩
        · have hk : (k : Int) < R 1 := by rw [← nar_o R x.toNat (if R (5 + 4 * x.toNat + 2) < lo then lo else R (5 + 4 * x.toNat + 2)) (if hi < R (5 + 4 * x.toNat + 3) then hi else R (5 + 4 * x.toNat + 3)) hx6 (j := 1) (by omega)]; exact hk
          rw [eo _ (by decide) (by decide), eo _ (by decide) (by decide), eo _ (by decide) (by decide), eo _ (by decide) (by decide), eo _ (by decide) (by decide), nar_o _ _ _ _ hx6 (by omega), nar_o _ _ _ _ hx6 (by omega), nar_o _ _ _ _ hx6 (by omega), nar_o _ _ _ _ hx6 (by omega), nar_o _ _ _ _ hx6 (by omega)]
          exact rc k hk
        · rw [eo _ (by decide) (by decide)]
          exact ry k hk
      · refine q_iconst (v := 1) hG rfl rfl ?_
        refine q_goto hG rfl ?_
        refine q_iadd hG rfl ?_
        refine q_iret0 hG rfl rfl ?_
        have eo : ∀ a, a ≠ 6 → a ≠ 7 → st (st I 6 x.toNat (if R (5 + 4 * x.toNat + 2) < lo then lo else R (5 + 4 * x.toNat + 2))) 7 x.toNat (if hi < R (5 + 4 * x.toNat + 3) then hi else R (5 + 4 * x.toNat + 3)) a = I a := fun a h3 h4 => by rw [st_row _ _ h4, st_row _ _ h3]
        have e6 : st (st I 6 x.toNat (if R (5 + 4 * x.toNat + 2) < lo then lo else R (5 + 4 * x.toNat + 2))) 7 x.toNat (if hi < R (5 + 4 * x.toNat + 3) then hi else R (5 + 4 * x.toNat + 3)) 6 = upf (I 6) x.toNat (if R (5 + 4 * x.toNat + 2) < lo then lo else R (5 + 4 * x.toNat + 2)) := by rw [st_row _ _ (by decide), st_fn]
        have e7 : st (st I 6 x.toNat (if R (5 + 4 * x.toNat + 2) < lo then lo else R (5 + 4 * x.toNat + 2))) 7 x.toNat (if hi < R (5 + 4 * x.toNat + 3) then hi else R (5 + 4 * x.toNat + 3)) 7 = upf (I 7) x.toNat (if hi < R (5 + 4 * x.toNat + 3) then hi else R (5 + 4 * x.toNat + 3)) := by rw [st_fn, st_row _ _ (by decide)]
        refine Eq.mp ?_ (p1 (by omega) (st (st I 6 x.toNat (if R (5 + 4 * x.toNat + 2) < lo then lo else R (5 + 4 * x.toNat + 2))) 7 x.toNat (if hi < R (5 + 4 * x.toNat + 3) then hi else R (5 + 4 * x.toNat + 3))) ⟨?_, ?_, ?_, ?_, ?_, fun k hk => ?_, fun k hk => ?_, fun k hk => ?_⟩ (fun a ha => eo a (by omega) (by omega)))
        · congr 5
          first
          | rw [df_eq (by omega), df_eq (by omega)]
          | rw [df_eq (by omega), df_ne (by omega)]
          | rw [df_ne (by omega), df_eq (by omega)]
          | rw [df_ne (by omega), df_ne (by omega)]
        · rw [eo _ (by decide) (by decide), nar_o _ _ _ _ hx6 (by omega)]; exact r0
        · rw [eo _ (by decide) (by decide), nar_o _ _ _ _ hx6 (by omega)]; exact r1
        · rw [eo _ (by decide) (by decide), nar_o _ _ _ _ hx6 (by omega)]; exact r2
        · rw [eo _ (by decide) (by decide), nar_o _ _ _ _ hx6 (by omega)]; exact r3
        · rw [eo _ (by decide) (by decide), nar_o _ _ _ _ hx6 (by omega)]; exact r4
        · obtain ⟨a1, a2, a3, a4⟩ := nar_k R x.toNat (if R (5 + 4 * x.toNat + 2) < lo then lo else R (5 + 4 * x.toNat + 2)) (if hi < R (5 + 4 * x.toNat + 3) then hi else R (5 + 4 * x.toNat + 3)) k
          rw [a1, a2, a3, a4, e6, e7, eo _ (by decide) (by decide), eo _ (by decide) (by decide)]
          exact ⟨(rd k hk).1, (rd k hk).2.1, upf_ag (fun k hk => (rd k hk).2.2.1) k hk, upf_ag (fun k hk => (rd k hk).2.2.2) k hk⟩
        · have hk : (k : Int) < R 1 := by rw [← nar_o R x.toNat (if R (5 + 4 * x.toNat + 2) < lo then lo else R (5 + 4 * x.toNat + 2)) (if hi < R (5 + 4 * x.toNat + 3) then hi else R (5 + 4 * x.toNat + 3)) hx6 (j := 1) (by omega)]; exact hk
          rw [eo _ (by decide) (by decide), eo _ (by decide) (by decide), eo _ (by decide) (by decide), eo _ (by decide) (by decide), eo _ (by decide) (by decide), nar_o _ _ _ _ hx6 (by omega), nar_o _ _ _ _ hx6 (by omega), nar_o _ _ _ _ hx6 (by omega), nar_o _ _ _ _ hx6 (by omega), nar_o _ _ _ _ hx6 (by omega)]
          exact rc k hk
        · rw [eo _ (by decide) (by decide)]
          exact ry k hk
    · refine q_iconst (v := 1) hG rfl rfl ?_
      refine q_goto hG rfl ?_
      refine q_iload hG rfl rfl ?_
      refine q_iload hG rfl rfl ?_
      refine q_icmp_eq hG rfl (by split <;> exact ⟨by omega, by omega⟩) ⟨by omega, by omega⟩ (fun hc90 => ?_) (fun hc90 => ?_)
      · refine q_iconst (v := 0) hG rfl rfl ?_
        refine q_iadd hG rfl ?_
        refine q_iret0 hG rfl rfl ?_
        have eo : ∀ a, a ≠ 6 → a ≠ 7 → st (st I 6 x.toNat (if R (5 + 4 * x.toNat + 2) < lo then lo else R (5 + 4 * x.toNat + 2))) 7 x.toNat (if hi < R (5 + 4 * x.toNat + 3) then hi else R (5 + 4 * x.toNat + 3)) a = I a := fun a h3 h4 => by rw [st_row _ _ h4, st_row _ _ h3]
        have e6 : st (st I 6 x.toNat (if R (5 + 4 * x.toNat + 2) < lo then lo else R (5 + 4 * x.toNat + 2))) 7 x.toNat (if hi < R (5 + 4 * x.toNat + 3) then hi else R (5 + 4 * x.toNat + 3)) 6 = upf (I 6) x.toNat (if R (5 + 4 * x.toNat + 2) < lo then lo else R (5 + 4 * x.toNat + 2)) := by rw [st_row _ _ (by decide), st_fn]
        have e7 : st (st I 6 x.toNat (if R (5 + 4 * x.toNat + 2) < lo then lo else R (5 + 4 * x.toNat + 2))) 7 x.toNat (if hi < R (5 + 4 * x.toNat + 3) then hi else R (5 + 4 * x.toNat + 3)) 7 = upf (I 7) x.toNat (if hi < R (5 + 4 * x.toNat + 3) then hi else R (5 + 4 * x.toNat + 3)) := by rw [st_fn, st_row _ _ (by decide)]
        refine Eq.mp ?_ (p1 (by omega) (st (st I 6 x.toNat (if R (5 + 4 * x.toNat + 2) < lo then lo else R (5 + 4 * x.toNat + 2))) 7 x.toNat (if hi < R (5 + 4 * x.toNat + 3) then hi else R (5 + 4 * x.toNat + 3))) ⟨?_, ?_, ?_, ?_, ?_, fun k hk => ?_, fun k hk => ?_, fun k hk => ?_⟩ (fun a ha => eo a (by omega) (by omega)))
        · congr 5
          first
          | rw [df_eq (by omega), df_eq (by omega)]
          | rw [df_eq (by omega), df_ne (by omega)]
          | rw [df_ne (by omega), df_eq (by omega)]
          | rw [df_ne (by omega), df_ne (by omega)]
        · rw [eo _ (by decide) (by decide), nar_o _ _ _ _ hx6 (by omega)]; exact r0
        · rw [eo _ (by decide) (by decide), nar_o _ _ _ _ hx6 (by omega)]; exact r1
        · rw [eo _ (by decide) (by decide), nar_o _ _ _ _ hx6 (by omega)]; exact r2
        · rw [eo _ (by decide) (by decide), nar_o _ _ _ _ hx6 (by omega)]; exact r3
        · rw [eo _ (by decide) (by decide), nar_o _ _ _ _ hx6 (by omega)]; exact r4
        · obtain ⟨a1, a2, a3, a4⟩ := nar_k R x.toNat (if R (5 + 4 * x.toNat + 2) < lo then lo else R (5 + 4 * x.toNat + 2)) (if hi < R (5 + 4 * x.toNat + 3) then hi else R (5 + 4 * x.toNat + 3)) k
          rw [a1, a2, a3, a4, e6, e7, eo _ (by decide) (by decide), eo _ (by decide) (by decide)]
          exact ⟨(rd k hk).1, (rd k hk).2.1, upf_ag (fun k hk => (rd k hk).2.2.1) k hk, upf_ag (fun k hk => (rd k hk).2.2.2) k hk⟩
        · have hk : (k : Int) < R 1 := by rw [← nar_o R x.toNat (if R (5 + 4 * x.toNat + 2) < lo then lo else R (5 + 4 * x.toNat + 2)) (if hi < R (5 + 4 * x.toNat + 3) then hi else R (5 + 4 * x.toNat + 3)) hx6 (j := 1) (by omega)]; exact hk
          rw [eo _ (by decide) (by decide), eo _ (by decide) (by decide), eo _ (by decide) (by decide), eo _ (by decide) (by decide), eo _ (by decide) (by decide), nar_o _ _ _ _ hx6 (by omega), nar_o _ _ _ _ hx6 (by omega), nar_o _ _ _ _ hx6 (by omega), nar_o _ _ _ _ hx6 (by omega), nar_o _ _ _ _ hx6 (by omega)]
          exact rc k hk
        · rw [eo _ (by decide) (by decide)]
          exact ry k hk
      · refine q_iconst (v := 1) hG rfl rfl ?_
        refine q_goto hG rfl ?_
        refine q_iadd hG rfl ?_
        refine q_iret0 hG rfl rfl ?_
        have eo : ∀ a, a ≠ 6 → a ≠ 7 → st (st I 6 x.toNat (if R (5 + 4 * x.toNat + 2) < lo then lo else R (5 + 4 * x.toNat + 2))) 7 x.toNat (if hi < R (5 + 4 * x.toNat + 3) then hi else R (5 + 4 * x.toNat + 3)) a = I a := fun a h3 h4 => by rw [st_row _ _ h4, st_row _ _ h3]
        have e6 : st (st I 6 x.toNat (if R (5 + 4 * x.toNat + 2) < lo then lo else R (5 + 4 * x.toNat + 2))) 7 x.toNat (if hi < R (5 + 4 * x.toNat + 3) then hi else R (5 + 4 * x.toNat + 3)) 6 = upf (I 6) x.toNat (if R (5 + 4 * x.toNat + 2) < lo then lo else R (5 + 4 * x.toNat + 2)) := by rw [st_row _ _ (by decide), st_fn]
        have e7 : st (st I 6 x.toNat (if R (5 + 4 * x.toNat + 2) < lo then lo else R (5 + 4 * x.toNat + 2))) 7 x.toNat (if hi < R (5 + 4 * x.toNat + 3) then hi else R (5 + 4 * x.toNat + 3)) 7 = upf (I 7) x.toNat (if hi < R (5 + 4 * x.toNat + 3) then hi else R (5 + 4 * x.toNat + 3)) := by rw [st_fn, st_row _ _ (by decide)]
        refine Eq.mp ?_ (p1 (by omega) (st (st I 6 x.toNat (if R (5 + 4 * x.toNat + 2) < lo then lo else R (5 + 4 * x.toNat + 2))) 7 x.toNat (if hi < R (5 + 4 * x.toNat + 3) then hi else R (5 + 4 * x.toNat + 3))) ⟨?_, ?_, ?_, ?_, ?_, fun k hk => ?_, fun k hk => ?_, fun k hk => ?_⟩ (fun a ha => eo a (by omega) (by omega)))
        · congr 5
          first
          | rw [df_eq (by omega), df_eq (by omega)]
          | rw [df_eq (by omega), df_ne (by omega)]
          | rw [df_ne (by omega), df_eq (by omega)]
          | rw [df_ne (by omega), df_ne (by omega)]
        · rw [eo _ (by decide) (by decide), nar_o _ _ _ _ hx6 (by omega)]; exact r0
        · rw [eo _ (by decide) (by decide), nar_o _ _ _ _ hx6 (by omega)]; exact r1
        · rw [eo _ (by decide) (by decide), nar_o _ _ _ _ hx6 (by omega)]; exact r2
        · rw [eo _ (by decide) (by decide), nar_o _ _ _ _ hx6 (by omega)]; exact r3
        · rw [eo _ (by decide) (by decide), nar_o _ _ _ _ hx6 (by omega)]; exact r4
        · obtain ⟨a1, a2, a3, a4⟩ := nar_k R x.toNat (if R (5 + 4 * x.toNat + 2) < lo then lo else R (5 + 4 * x.toNat + 2)) (if hi < R (5 + 4 * x.toNat + 3) then hi else R (5 + 4 * x.toNat + 3)) k
          rw [a1, a2, a3, a4, e6, e7, eo _ (by decide) (by decide), eo _ (by decide) (by decide)]
          exact ⟨(rd k hk).1, (rd k hk).2.1, upf_ag (fun k hk => (rd k hk).2.2.1) k hk, upf_ag (fun k hk => (rd k hk).2.2.2) k hk⟩
        · have hk : (k : Int) < R 1 := by rw [← nar_o R x.toNat (if R (5 + 4 * x.toNat + 2) < lo then lo else R (5 + 4 * x.toNat + 2)) (if hi < R (5 + 4 * x.toNat + 3) then hi else R (5 + 4 * x.toNat + 3)) hx6 (j := 1) (by omega)]; exact hk
          rw [eo _ (by decide) (by decide), eo _ (by decide) (by decide), eo _ (by decide) (by decide), eo _ (by decide) (by decide), eo _ (by decide) (by decide), nar_o _ _ _ _ hx6 (by omega), nar_o _ _ _ _ hx6 (by omega), nar_o _ _ _ _ hx6 (by omega), nar_o _ _ _ _ hx6 (by omega), nar_o _ _ _ _ hx6 (by omega)]
          exact rc k hk
        · rw [eo _ (by decide) (by decide)]
          exact ry k hk
  · refine q_aload_n hG rfl rfl ?_
    refine q_iconst (v := 4) hG rfl rfl ?_
    refine q_iload hG rfl rfl ?_
    refine q_callV6 hG rfl rfl rfl (by assumption) (s_X_reject hX0 ?_)
    refine q_iret0 hG rfl rfl ?_
    exact p0 (by omega) _ (rjf_of _ _ _)
