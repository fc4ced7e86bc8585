/-! the law's changes: what an act may do -/
section
variable {S : SpecT} {M : MDT} {Post : Out → HP → Prop} {G : Nat → LV → List Value → HP → Prop} {pc nx : Nat} {cst : Int32} {x : List Nat} {L : LV} {r : List Value} {A : HP}
theorem q_iremP (hG : Cl S M Post G) {a b : Int} (hl : lk pc M.1 = some (.irem, nx, cst, x)) (ha : 0 ≤ a ∧ a < 2147483648) (hb : 0 < b ∧ b < 2147483648) (h : ∀ v : Int, v = a % b → 0 ≤ v ∧ v < b → G nx L (.int (i3 v) :: r) A) : G pc L (.int (i3 b) :: .int (i3 a) :: r) A := q_irem hG hl ⟨by omega, by omega⟩ hb (by
  have e : a - a.tdiv b * b = a % b := by rw [Int.tdiv_eq_ediv_of_nonneg ha.1, Int.emod_def, Int.mul_comm]
  rw [e]
  exact h _ rfl ⟨Int.emod_nonneg _ (by omega), Int.emod_lt_of_pos _ hb.1⟩)
theorem q_idivP (hG : Cl S M Post G) {a b : Int} (hl : lk pc M.1 = some (.idiv, nx, cst, x)) (ha : 0 ≤ a ∧ a < 2147483648) (hb : 0 < b ∧ b < 2147483648) (h : ∀ v : Int, v = a / b → G nx L (.int (i3 v) :: r) A) : G pc L (.int (i3 b) :: .int (i3 a) :: r) A := q_idiv hG hl ⟨by omega, by omega⟩ hb (by
  rw [Int.tdiv_eq_ediv_of_nonneg ha.1]
  exact h _ rfl)
theorem q_minP (hG : Cl S M Post G) {j : _} {a b : Int} (hl : lk pc M.1 = some (.invokestatic j, nx, cst, [4])) (ha : r32 a) (hb : r32 b) (hc : Nat.ble (catS r) 8 = true) (h : ∀ v : Int, (v = a ∨ v = b) → G nx L (.int (i3 v) :: r) A) : G pc L (.int (i3 b) :: .int (i3 a) :: r) A := q_min hG hl ha hb hc (h _ (by split <;> omega))
theorem q_maxP (hG : Cl S M Post G) {j : _} {a b : Int} (hl : lk pc M.1 = some (.invokestatic j, nx, cst, [3])) (ha : r32 a) (hb : r32 b) (hc : Nat.ble (catS r) 8 = true) (h : ∀ v : Int, (v = a ∨ v = b) → G nx L (.int (i3 v) :: r) A) : G pc L (.int (i3 b) :: .int (i3 a) :: r) A := q_max hG hl ha hb hc (h _ (by split <;> omega))
end
theorem s_L_addDoor {d : Nat} {B : HP} {I : IM} {Post : Out → HP → Prop} {M L D : Nat} {R : RW} (t : TI M L D R B I) (hM : M + 1 ≤ 5000) {lo hi : Int} (hl : r32 lo) (hh : r32 hi) (hp : ∀ (v : Int) (R2 : RW) (C : HP) (J : IM), TI (M + 1) L D R2 C J → (rngP lo hi → R 0 < 6 → R2 0 = R 0 + 1) → Post (.inl (some (.int (i3 v)))) (wI C J)) : Sp (d + 5) k_L_addDoor [.ref 0, .int (i3 (lo)), .int (i3 (hi))] (wI B I) Post := by
  refine Sp_intro md_L_addDoor rfl rfl (fun G hG => ?_)
  have b0 := t.b0
  have b1 := t.b1
  have dd := t.dd
  have hX9 := t.lx.1
  obtain ⟨c9, h9, sv9, SR9, eo9, why9, det9, cau9, hC⟩ := t.cs
  show G 0 [some (.ref 0), some (.int (i3 (lo))), some (.int (i3 (hi))), none] [] (wI B I)
  refine q_aload_n hG rfl rfl ?_
  refine q_iload_n hG rfl rfl ?_
  refine q_iload_n hG rfl rfl ?_
  refine q_callV6 hG rfl rfl rfl hX9 (s_P_addDoor t.lx hC t.wf t.q hl hh (fun e => ?_) (fun e e2 J hJ f => ?_) (fun e e2 J hJ f => ?_))
  · refine q_astoreJ_n hG rfl rfl ?_
    refine q_sipush (v := -20000) hG rfl rfl ?_
    refine q_iret0 hG rfl rfl ?_
    exact hp _ R (junk B 6) I (t.junk hM) (fun q _ => absurd q e)
  · refine q_iret0 hG rfl rfl ?_
    exact hp _ _ B J (t.chg hJ f ⟨Nat.le_succ _, hM⟩ ((addR_W t.wf e2 e).up (by omega)) (asc_add t.asc ⟨b0.1, e2⟩ lo hi) (by show (D : Int) ≤ R 0 + 1; omega)) (fun _ _ => rfl)
  · refine q_astoreJ_n hG rfl rfl ?_
    refine q_sipush (v := -15000) hG rfl rfl ?_
    refine q_iret0 hG rfl rfl ?_
    exact hp _ R (junk B 6) J ((t.chg hJ f ⟨Nat.le_refl _, t.nn.2.2⟩ t.wf t.asc t.dd : TI M L D R B J).junk hM) (fun _ q => by omega)
theorem s_L_setFrame {d : Nat} {B : HP} {I : IM} {Post : Out → HP → Prop} {M L D : Nat} {R : RW} (t : TI M L D R B I) (hM : M + 1 ≤ 5000) {x lo hi : Int} (hv : r32 x) (hl : r32 lo) (hh : r32 hi) (hp : ∀ (v : Int) (R2 : RW) (C : HP) (J : IM), TI (M + 1) L D R2 C J → Post (.inl (some (.int (i3 v)))) (wI C J)) : Sp (d + 5) k_L_setFrame [.ref 0, .int (i3 (x)), .int (i3 (lo)), .int (i3 (hi))] (wI B I) Post := by
  refine Sp_intro md_L_setFrame rfl rfl (fun G hG => ?_)
  have b0 := t.b0
  have b1 := t.b1
  have dd := t.dd
  have hX9 := t.lx.1
  obtain ⟨c9, h9, sv9, SR9, eo9, why9, det9, cau9, hC⟩ := t.cs
  show G 0 [some (.ref 0), some (.int (i3 (x))), some (.int (i3 (lo))), some (.int (i3 (hi))), none] [] (wI B I)
  refine q_aload_n hG rfl rfl ?_
  refine q_iload_n hG rfl rfl ?_
  refine q_iload_n hG rfl rfl ?_
  refine q_iload_n hG rfl rfl ?_
  refine q_callV6 hG rfl rfl rfl hX9 (s_P_setFrame t.lx hC t.wf t.q hv hl hh (fun e => ?_) (fun e e2 => ?_) (fun e e2 J hJ f => ?_))
  · refine q_astoreJ hG rfl rfl ?_
    refine q_sipush (v := -25000) hG rfl rfl ?_
    refine q_iret0 hG rfl rfl ?_
    exact hp _ R (junk B 6) I (t.junk hM)
  · refine q_astoreJ hG rfl rfl ?_
    refine q_sipush (v := -20000) hG rfl rfl ?_
    refine q_iret0 hG rfl rfl ?_
    exact hp _ R (junk B 6) I (t.junk hM)
  · refine q_iret0 hG rfl rfl ?_
    exact hp _ _ B J (t.chg hJ f ⟨Nat.le_succ _, hM⟩ ((frmR_W t.wf (by omega) e2).up (by omega)) (asc_frm t.asc (by omega) lo hi) (by rw [frm_o R x.toNat lo hi (by omega) (by omega)]; exact dd))
theorem s_L_narrow {d : Nat} {B : HP} {I : IM} {Post : Out → HP → Prop} {M L D : Nat} {R : RW} (t : TI M L D R B I) (hM : M + 1 ≤ 5000) {x lo hi : Int} (hv : r32 x) (hl : r32 lo) (hh : r32 hi) (hp : ∀ (v : Int) (R2 : RW) (C : HP) (J : IM), TI (M + 1) L D R2 C J → Post (.inl (some (.int (i3 v)))) (wI C J)) : Sp (d + 5) k_L_narrow [.ref 0, .int (i3 (x)), .int (i3 (lo)), .int (i3 (hi))] (wI B I) Post := by
  refine Sp_intro md_L_narrow rfl rfl (fun G hG => ?_)
  have b0 := t.b0
  have b1 := t.b1
  have dd := t.dd
  have hX9 := t.lx.1
  obtain ⟨c9, h9, sv9, SR9, eo9, why9, det9, cau9, hC⟩ := t.cs
  show G 0 [some (.ref 0), some (.int (i3 (x))), some (.int (i3 (lo))), some (.int (i3 (hi))), none] [] (wI B I)
  refine q_aload_n hG rfl rfl ?_
  refine q_iload_n hG rfl rfl ?_
  refine q_iload_n hG rfl rfl ?_
  refine q_iload_n hG rfl rfl ?_
  refine q_callV6 hG rfl rfl rfl hX9 (s_P_narrow t.lx hC t.wf t.q hv hl hh (fun e => ?_) (fun e e2 => ?_) (fun e e2 e3 J hJ f => ?_) (fun e e2 e3 J hJ f => ?_))
  · refine q_astoreJ hG rfl rfl ?_
    refine q_sipush (v := -25000) hG rfl rfl ?_
    refine q_iret0 hG rfl rfl ?_
    exact hp _ R (junk B 6) I (t.junk hM)
  · refine q_astoreJ hG rfl rfl ?_
    refine q_sipush (v := -20000) hG rfl rfl ?_
    refine q_iret0 hG rfl rfl ?_
    exact hp _ R (junk B 6) I (t.junk hM)
  · refine q_iret0 hG rfl rfl ?_
    exact hp _ _ B J (t.chg hJ f ⟨Nat.le_succ _, hM⟩ ((narR_W t.wf (by omega) ⟨by split <;> omega, e3, by split <;> omega⟩).up (by omega)) (asc_nar t.asc (by omega) _ _) (by rw [nar_o R x.toNat _ _ (by omega) (by omega)]; exact dd))
  · refine q_astoreJ hG rfl rfl ?_
    refine q_sipush (v := -15000) hG rfl rfl ?_
    refine q_iret0 hG rfl rfl ?_
    exact hp _ R (junk B 6) J ((t.chg hJ f ⟨Nat.le_refl _, t.nn.2.2⟩ t.wf t.asc t.dd : TI M L D R B J).junk hM)
theorem s_L_addCon {d : Nat} {B : HP} {I : IM} {Post : Out → HP → Prop} {M L D : Nat} {R : RW} (t : TI M L D R B I) (hM : M + 1 ≤ 5000) {kd f1 s1 g1 : Int} (hx : r32 kd ∧ r32 f1 ∧ r32 s1 ∧ r32 g1) (hp : ∀ (v : Int) (R2 : RW) (C : HP) (J : IM), TI (M + 1) L D R2 C J → Post (.inl (some (.int (i3 v)))) (wI C J)) : Sp (d + 5) k_L_addConstraint [.ref 0, .int (i3 (kd)), .int (i3 (f1)), .int (i3 (s1)), .int (i3 (g1))] (wI B I) Post := by
  refine Sp_intro md_L_addConstraint rfl rfl (fun G hG => ?_)
  have b0 := t.b0
  have b1 := t.b1
  have dd := t.dd
  have hX9 := t.lx.1
  obtain ⟨c9, h9, sv9, SR9, eo9, why9, det9, cau9, hC⟩ := t.cs
  show G 0 [some (.ref 0), some (.int (i3 (kd))), some (.int (i3 (f1))), some (.int (i3 (s1))), some (.int (i3 (g1))), none] [] (wI B I)
  refine q_aload_n hG rfl rfl ?_
  refine q_iload_n hG rfl rfl ?_
  refine q_iload_n hG rfl rfl ?_
  refine q_iload_n hG rfl rfl ?_
  refine q_iload hG rfl rfl ?_
  refine q_callV6 hG rfl rfl rfl hX9 (s_P_addCon t.lx hC t.wf t.q hx (fun e => ?_) (fun e e2 => ?_) (fun e e2 e3 J hJ f => ?_) (fun e e2 e3 p e4 J hJ f => ?_) (fun e e2 e3 e4 J hJ f => ?_))
  · refine q_astoreJ hG rfl rfl ?_
    refine q_sipush (v := -25000) hG rfl rfl ?_
    refine q_iret0 hG rfl rfl ?_
    exact hp _ R (junk B 6) I (t.junk hM)
  · refine q_astoreJ hG rfl rfl ?_
    refine q_sipush (v := -20000) hG rfl rfl ?_
    refine q_iret0 hG rfl rfl ?_
    exact hp _ R (junk B 6) I (t.junk hM)
  · refine q_astoreJ hG rfl rfl ?_
    refine q_sipush (v := -15000) hG rfl rfl ?_
    refine q_iret0 hG rfl rfl ?_
    exact hp _ R (junk B 6) J ((t.chg hJ f ⟨Nat.le_refl _, t.nn.2.2⟩ t.wf t.asc t.dd : TI M L D R B J).junk hM)
  · refine q_astoreJ hG rfl rfl ?_
    refine q_sipush (v := -15000) hG rfl rfl ?_
    refine q_iret0 hG rfl rfl ?_
    exact hp _ R (junk B 6) J ((t.chg hJ f ⟨Nat.le_refl _, t.nn.2.2⟩ t.wf t.asc t.dd : TI M L D R B J).junk hM)
  · obtain ⟨k1, k2, k3, k4, k5⟩ := e2
    refine q_iret0 hG rfl rfl ?_
    exact hp _ _ B J (t.chg hJ f ⟨Nat.le_succ _, hM⟩ ((bndR_W t.wf e3 k1 e.1 e.2 k5 ⟨k2, k3⟩ k4).up (by omega)) (asc_bnd t.asc t.wf _ _ _ _) (by rw [bnd_o R _ _ _ _ (by omega)]; exact dd))
theorem s_L_remove {d : Nat} {B : HP} {I : IM} {Post : Out → HP → Prop} {M L D : Nat} {R : RW} (t : TI M L D R B I) (hM : M + 1 ≤ 5000) {v9 : Int} (hv : r32 v9) (hp : ∀ (v : Int) (R2 : RW) (C : HP) (J : IM), TI (M + 1) L D R2 C J → Post (.inl (some (.int (i3 v)))) (wI C J)) : Sp (d + 5) k_L_removeConstraint [.ref 0, .int (i3 (v9))] (wI B I) Post := by
  refine Sp_intro md_L_removeConstraint rfl rfl (fun G hG => ?_)
  have b0 := t.b0
  have b1 := t.b1
  have dd := t.dd
  have hX9 := t.lx.1
  obtain ⟨c9, h9, sv9, SR9, eo9, why9, det9, cau9, hC⟩ := t.cs
  show G 0 [some (.ref 0), some (.int (i3 (v9))), none] [] (wI B I)
  refine q_aload_n hG rfl rfl ?_
  refine q_iload_n hG rfl rfl ?_
  refine q_callV6 hG rfl rfl rfl hX9 (s_P_removeCon t.lx hC t.wf t.q hv (fun e => ?_) (fun p e J hJ f => ?_))
  · refine q_astoreJ_n hG rfl rfl ?_
    refine q_sipush (v := -30000) hG rfl rfl ?_
    refine q_iret0 hG rfl rfl ?_
    exact hp _ R (junk B 6) I (t.junk hM)
  · have hp9 := e.1
    refine q_iret0 hG rfl rfl ?_
    exact hp _ _ B J (t.chg hJ f ⟨Nat.le_succ _, hM⟩ ((drpR_W t.wf (by omega)).up (by omega)) (asc_drp t.asc (by omega)) (by rw [drp_o R _ (by omega) (by omega)]; exact dd))
theorem s_L_pass {d : Nat} {B : HP} {I : IM} {Post : Out → HP → Prop} {M L D : Nat} {R : RW} (t : TI M L D R B I) (hM : M + 1 ≤ 5000)  (hp : ∀ (v : Int) (R2 : RW) (C : HP) (J : IM), TI (M + 1) L D R2 C J → Post (.inl (some (.int (i3 v)))) (wI C J)) : Sp (d + 6) k_L_pass [.ref 0] (wI B I) Post := by
  refine Sp_intro md_L_pass rfl rfl (fun G hG => ?_)
  have b0 := t.b0
  have b1 := t.b1
  have dd := t.dd
  have hX9 := t.lx.1
  obtain ⟨c9, h9, sv9, SR9, eo9, why9, det9, cau9, hC⟩ := t.cs
  show G 0 [some (.ref 0), none] [] (wI B I)
  refine q_aload_n hG rfl rfl ?_
  refine q_callV6 hG rfl rfl rfl hX9 (s_P_pass t.lx hC t.wf t.q (fun e J hJ f => ?_) (fun p e J hJ f => ?_))
  · have g := (paM_ok (wa := 1) (wfR_6 t.wf) (R 1).toNat 0 (ptR R) (by omega) (ptR_ok t.wf))
    have gb := pa_bd t.wf e
    refine q_iret0 hG rfl rfl ?_
    exact hp _ _ B J (t.chg hJ f ⟨Nat.le_succ _, hM⟩ ((setB_W (u := 1000) t.wf (g.2.1 e) g.1 ⟨by omega, by omega⟩ gb.2).up (by omega)) (asc_set t.asc _ _) (by rw [setB_o _ _ _ (by omega)]; exact dd))
  · refine q_astoreJ_n hG rfl rfl ?_
    refine q_sipush (v := -15000) hG rfl rfl ?_
    refine q_iret0 hG rfl rfl ?_
    exact hp _ R (junk B 6) J ((t.chg hJ f ⟨Nat.le_refl _, t.nn.2.2⟩ t.wf t.asc t.dd : TI M L D R B J).junk hM)
theorem s_L_settle {d : Nat} {B : HP} {I : IM} {Post : Out → HP → Prop} {M L D : Nat} {R : RW} (t : TI M L D R B I) (hM : M + 1 ≤ 5000)  (hp : ∀ (v : Int) (R2 : RW) (C : HP) (J : IM), TI (M + 1) L D R2 C J → Post (.inl (some (.int (i3 v)))) (wI C J)) : Sp (d + 7) k_L_settle [.ref 0] (wI B I) Post := by
  refine Sp_intro md_L_settle rfl rfl (fun G hG => ?_)
  have b0 := t.b0
  have b1 := t.b1
  have dd := t.dd
  have hX9 := t.lx.1
  obtain ⟨c9, h9, sv9, SR9, eo9, why9, det9, cau9, hC⟩ := t.cs
  show G 0 [some (.ref 0), none] [] (wI B I)
  refine q_aload_n hG rfl rfl ?_
  refine q_callV6 hG rfl rfl rfl hX9 (s_P_settle t.lx hC t.wf t.q (fun e J hJ f => ?_) (fun p e J hJ f => ?_))
  · obtain ⟨g1, g2, g3, g4⟩ := stM_ok (wa := 1) (wfR_6 t.wf) 1000 (ptR R) 0 (ptR_ok t.wf) e
    have ww := okB_w (ptR_ok t.wf)
    have w2 := okB_w g1
    have g21 := g2.2.1
    have g22 := g2.2.2.1
    have z : (ptR R).2.2 = 0 := rfl
    have gb := st_bd t.wf e
    refine q_iret0 hG rfl rfl ?_
    exact hp _ _ B J (t.chg hJ f ⟨Nat.le_succ _, hM⟩ ((setB_W (u := 1000) t.wf g1 g2 ⟨gb.1, by omega⟩ (by show (stM (cnR R) 1 (R 1).toNat 1000 (ptR R) 0).2.1.2.2 ≤ 1000; omega)).up (by omega)) (asc_set t.asc _ _) (by rw [setB_o _ _ _ (by omega)]; exact dd))
  · refine q_astoreJ_n hG rfl rfl ?_
    refine q_sipush (v := -15000) hG rfl rfl ?_
    refine q_iret0 hG rfl rfl ?_
    exact hp _ R (junk B 6) J ((t.chg hJ f ⟨Nat.le_refl _, t.nn.2.2⟩ t.wf t.asc t.dd : TI M L D R B J).junk hM)
theorem s_L_kind {d : Nat} {B : HP} {I : IM} {Post : Out → HP → Prop} {v : Int} (hv : 0 ≤ v ∧ v < 100000) (hp : ∀ c : Int, (c = 60 ∨ c = 61 ∨ c = 35) → Post (.inl (some (.int (i3 c)))) (wI B I)) : Sp (d + 1) k_L_kind [.int (i3 (v))] (wI B I) Post := by
  refine Sp_intro md_L_kind rfl rfl (fun G hG => ?_)
  show G 0 [some (.int (i3 (v)))] [] (wI B I)
  refine q_iload_n hG rfl rfl ?_
  refine q_iconst (v := 3) hG rfl rfl ?_
  refine q_iremP hG rfl ⟨by omega, by omega⟩ ⟨by omega, by omega⟩ (fun v2 w2 u2 => ?_)
  refine q_if_ne hG rfl ⟨by omega, by omega⟩ (fun hc3 => ?_) (fun hc3 => ?_)
  · refine q_iload_n hG rfl rfl ?_
    refine q_iconst (v := 3) hG rfl rfl ?_
    refine q_iremP hG rfl ⟨by omega, by omega⟩ ⟨by omega, by omega⟩ (fun v13 w13 u13 => ?_)
    refine q_iconst (v := 1) hG rfl rfl ?_
    refine q_icmp_ne hG rfl ⟨by omega, by omega⟩ ⟨by omega, by omega⟩ (fun hc15 => ?_) (fun hc15 => ?_)
    · refine q_bipush (v := 35) hG rfl rfl ?_
      refine q_iret3 hG rfl rfl (by decide) ?_
      exact hp 35 (by omega)
    · refine q_bipush (v := 61) hG rfl rfl ?_
      refine q_goto hG rfl ?_
      refine q_iret3 hG rfl rfl (by decide) ?_
      exact hp 61 (by omega)
  · refine q_bipush (v := 60) hG rfl rfl ?_
    refine q_goto hG rfl ?_
    refine q_iret3 hG rfl rfl (by decide) ?_
    exact hp 60 (by omega)
theorem s_L_cell {d : Nat} {B : HP} {I : IM} {Post : Out → HP → Prop} {L k : Nat} (hs : hK B (BIG + 20) = (9, L)) (hL : L ≤ 260) (hk : k < 1000) (hp : ∀ c : Int, Post (.inl (some (.int (i3 c)))) (wI B I)) : Sp (d + 1) k_L_cell [.ref (BIG + 20), .int (i3 ((k : Int)))] (wI B I) Post := by
  refine Sp_intro md_L_cell rfl rfl (fun G hG => ?_)
  show G 0 [some (.ref (BIG + 20)), some (.int (i3 ((k : Int))))] [] (wI B I)
  refine q_iload_n hG rfl rfl ?_
  refine q_aload_n hG rfl rfl ?_
  refine q_alen hG rfl (by assumption) ⟨by decide, by decide⟩ ?_
  refine q_icmp_ge hG rfl ⟨by omega, by omega⟩ ⟨by omega, by omega⟩ (fun hc3 => ?_) (fun hc3 => ?_)
  · refine q_sipush (v := 7919) hG rfl rfl ?_
    refine q_iload_n hG rfl rfl ?_
    refine q_imul hG rfl ?_
    refine q_bipush (v := 12) hG rfl rfl ?_
    refine q_iadd hG rfl ?_
    refine q_iret0 hG rfl rfl ?_
    exact hp _
  · refine q_aload_n hG rfl rfl ?_
    refine q_iload_n hG rfl rfl ?_
    refine q_iald9 hG rfl (by assumption) ⟨by omega, by omega, by omega⟩ ?_
    refine q_goto hG rfl ?_
    refine q_iret0 hG rfl rfl ?_
    exact hp _
theorem s_L_some {d : Nat} {B : HP} {I : IM} {Post : Out → HP → Prop} {L k : Nat} (hs : hK B (BIG + 20) = (9, L)) (hL : L ≤ 260) (hk : k < 1000) {n : Int} (hn9 : 0 < n ∧ n < 2147483648) (hp : ∀ c : Int, 0 ≤ c → c < n → Post (.inl (some (.int (i3 c)))) (wI B I)) : Sp (d + 2) k_L_some [.ref (BIG + 20), .int (i3 ((k : Int))), .int (i3 (n))] (wI B I) Post := by
  refine Sp_intro md_L_some rfl rfl (fun G hG => ?_)
  show G 0 [some (.ref (BIG + 20)), some (.int (i3 ((k : Int)))), some (.int (i3 (n)))] [] (wI B I)
  refine q_aload_n hG rfl rfl ?_
  refine q_iload_n hG rfl rfl ?_
  refine q_callS0 hG rfl rfl rfl (s_L_cell hs hL hk (fun c => ?_))
  refine q_iconst (v := 3) hG rfl rfl ?_
  refine q_iushr3 hG rfl (fun v6 hv6a hv6b => ?_)
  refine q_iload_n hG rfl rfl ?_
  refine q_iremP hG rfl ⟨by omega, by omega⟩ ⟨by omega, by omega⟩ (fun v8 w8 u8 => ?_)
  refine q_iret0 hG rfl rfl ?_
  exact hp _ u8.1 u8.2
theorem s_L_acts {d : Nat} {B : HP} {I : IM} {Post : Out → HP → Prop} {M L D : Nat} {R : RW} (t : TI M L D R B I) (hM : M + 1 ≤ 5000) (hL : L ≤ 260) {k : Nat} (hk : k < 900) (hD : 1 ≤ D) (hp : ∀ (R2 : RW) (C : HP) (J : IM), TI (M + 1) L D R2 C J → Post (.inl none) (wI C J)) : Sp (d + 8) k_L_acts [.ref 0, .ref (BIG + 20), .int (i3 ((k : Int)))] (wI B I) Post := by
  refine Sp_intro md_L_acts rfl rfl (fun G hG => ?_)
  have b0 := t.b0
  have b1 := t.b1
  have dd := t.dd
  have hX9 := t.lx.1
  obtain ⟨c9, h9, sv9, SR9, eo9, why9, det9, cau9, hC⟩ := t.cs
  show G 0 [some (.ref 0), some (.ref (BIG + 20)), some (.int (i3 ((k : Int)))), none, none, none, none, none] [] (wI B I)
  refine q_aload_n hG rfl rfl ?_
  refine q_iload_n hG rfl rfl ?_
  refine q_iconst (v := 1) hG rfl rfl ?_
  refine q_iadd hG rfl ?_
  rw [show ((k : Nat) : Int) + 1 = ((k + 1 : Nat) : Int) by omega]
  refine q_bipush (v := 41) hG rfl rfl ?_
  refine q_callS0 hG rfl rfl rfl (s_L_some t.sc hL (k := k + 1) (by omega) (n := 41) ⟨by omega, by omega⟩ (fun v va vb => ?_))
  refine q_istore_n hG rfl rfl ?_
  refine q_aload_n hG rfl rfl ?_
  refine q_iload_n hG rfl rfl ?_
  refine q_iconst (v := 2) hG rfl rfl ?_
  refine q_iadd hG rfl ?_
  rw [show ((k : Nat) : Int) + 2 = ((k + 2 : Nat) : Int) by omega]
  refine q_aload_n hG rfl rfl ?_
  refine q_callV6 hG rfl rfl rfl hX9 (t_doors t ?_)
  refine q_callS0 hG rfl rfl rfl (s_L_some t.sc hL (k := k + 2) (by omega) (n := R 0) ⟨by omega, by omega⟩ (fun u ua ub => ?_))
  refine q_istore hG rfl rfl ?_
  refine q_aload_n hG rfl rfl ?_
  refine q_iload_n hG rfl rfl ?_
  refine q_iconst (v := 3) hG rfl rfl ?_
  refine q_iadd hG rfl ?_
  rw [show ((k : Nat) : Int) + 3 = ((k + 3 : Nat) : Int) by omega]
  refine q_bipush (v := 41) hG rfl rfl ?_
  refine q_callS0 hG rfl rfl rfl (s_L_some t.sc hL (k := k + 3) (by omega) (n := 41) ⟨by omega, by omega⟩ (fun z za zb => ?_))
  refine q_istore hG rfl rfl ?_
  refine q_aload_n hG rfl rfl ?_
  refine q_callV6 hG rfl rfl rfl hX9 (t_cons t ?_)
  refine q_istore hG rfl rfl ?_
  refine q_aload_n hG rfl rfl ?_
  refine q_iload_n hG rfl rfl ?_
  refine q_bipush (v := 12) hG rfl rfl ?_
  refine q_callS0 hG rfl rfl rfl (s_L_some t.sc hL (k := k) (by omega) (n := 12) ⟨by omega, by omega⟩ (fun s sa sb => ?_))
  refine q_tsw hG rfl ⟨by omega, by omega⟩ rfl ?_
  refine ⟨fun hs47 => ?_, fun hs47_0 => ?_⟩
  · refine q_aload_n hG rfl rfl ?_
    refine q_iload_n hG rfl rfl ?_
    refine q_iload hG rfl rfl ?_
    refine q_minP hG rfl ⟨by omega, by omega⟩ ⟨by omega, by omega⟩ rfl (fun v108 w108 => ?_)
    refine q_iload_n hG rfl rfl ?_
    refine q_iload hG rfl rfl ?_
    refine q_maxP hG rfl ⟨by omega, by omega⟩ ⟨by omega, by omega⟩ rfl (fun v114 w114 => ?_)
    refine q_callS0 hG rfl rfl rfl (s_L_addDoor t hM ⟨by omega, by omega⟩ ⟨by omega, by omega⟩ (fun v9 R2 C J t2 _ => ?_))
    refine q_istore hG rfl rfl ?_
    refine q_goto hG rfl ?_
    refine q_vret hG rfl ?_
    first
    | exact hp _ _ _ t2
    | exact hp _ _ _ (t.up ⟨Nat.le_succ _, hM⟩)
  refine ⟨fun hs47 => ?_, fun hs47_1 => ?_⟩
  · refine q_aload_n hG rfl rfl ?_
    refine q_iload hG rfl rfl ?_
    refine q_iload_n hG rfl rfl ?_
    refine q_iload hG rfl rfl ?_
    refine q_minP hG rfl ⟨by omega, by omega⟩ ⟨by omega, by omega⟩ rfl (fun v131 w131 => ?_)
    refine q_iload_n hG rfl rfl ?_
    refine q_iload hG rfl rfl ?_
    refine q_maxP hG rfl ⟨by omega, by omega⟩ ⟨by omega, by omega⟩ rfl (fun v137 w137 => ?_)
    refine q_callS0 hG rfl rfl rfl (s_L_setFrame t hM ⟨by omega, by omega⟩ ⟨by omega, by omega⟩ ⟨by omega, by omega⟩ (fun v9 R2 C J t2 => ?_))
    refine q_istore hG rfl rfl ?_
    refine q_goto hG rfl ?_
    refine q_vret hG rfl ?_
    first
    | exact hp _ _ _ t2
    | exact hp _ _ _ (t.up ⟨Nat.le_succ _, hM⟩)
  refine ⟨fun hs47 => ?_, fun hs47_2 => ?_⟩
  · refine q_aload_n hG rfl rfl ?_
    refine q_iload hG rfl rfl ?_
    refine q_iload_n hG rfl rfl ?_
    refine q_iload hG rfl rfl ?_
    refine q_minP hG rfl ⟨by omega, by omega⟩ ⟨by omega, by omega⟩ rfl (fun v154 w154 => ?_)
    refine q_iconst (v := 2) hG rfl rfl ?_
    refine q_idivP hG rfl ⟨by omega, by omega⟩ ⟨by omega, by omega⟩ (fun v158 w158 => ?_)
    refine q_iload_n hG rfl rfl ?_
    refine q_iload hG rfl rfl ?_
    refine q_maxP hG rfl ⟨by omega, by omega⟩ ⟨by omega, by omega⟩ rfl (fun v162 w162 => ?_)
    refine q_callS0 hG rfl rfl rfl (s_L_narrow t hM ⟨by omega, by omega⟩ ⟨by omega, by omega⟩ ⟨by omega, by omega⟩ (fun v9 R2 C J t2 => ?_))
    refine q_istore hG rfl rfl ?_
    refine q_goto hG rfl ?_
    refine q_vret hG rfl ?_
    first
    | exact hp _ _ _ t2
    | exact hp _ _ _ (t.up ⟨Nat.le_succ _, hM⟩)
  refine ⟨fun hs47 => ?_, fun hs47_3 => ?_⟩
  · refine q_aload_n hG rfl rfl ?_
    refine q_iload hG rfl rfl ?_
    refine q_iload_n hG rfl rfl ?_
    refine q_iload hG rfl rfl ?_
    refine q_minP hG rfl ⟨by omega, by omega⟩ ⟨by omega, by omega⟩ rfl (fun v154 w154 => ?_)
    refine q_iconst (v := 2) hG rfl rfl ?_
    refine q_idivP hG rfl ⟨by omega, by omega⟩ ⟨by omega, by omega⟩ (fun v158 w158 => ?_)
    refine q_iload_n hG rfl rfl ?_
    refine q_iload hG rfl rfl ?_
    refine q_maxP hG rfl ⟨by omega, by omega⟩ ⟨by omega, by omega⟩ rfl (fun v162 w162 => ?_)
    refine q_callS0 hG rfl rfl rfl (s_L_narrow t hM ⟨by omega, by omega⟩ ⟨by omega, by omega⟩ ⟨by omega, by omega⟩ (fun v9 R2 C J t2 => ?_))
    refine q_istore hG rfl rfl ?_
    refine q_goto hG rfl ?_
    refine q_vret hG rfl ?_
    first
    | exact hp _ _ _ t2
    | exact hp _ _ _ (t.up ⟨Nat.le_succ _, hM⟩)
  refine ⟨fun hs47 => ?_, fun hs47_4 => ?_⟩
  · refine q_aload_n hG rfl rfl ?_
    refine q_callV6 hG rfl rfl rfl hX9 (s_P_reset t.lx hC t.wf t.q (fun J hJ f => ?_))
    have t2 : TI (M + 1) L D (openR R) B J := t.chg hJ f ⟨Nat.le_succ _, hM⟩ ((openR_W t.wf).up (by omega)) (asc_open t.asc) (by rw [openR_o R (by omega)]; exact dd)
    refine q_istore hG rfl rfl ?_
    refine q_goto hG rfl ?_
    refine q_vret hG rfl ?_
    first
    | exact hp _ _ _ t2
    | exact hp _ _ _ (t.up ⟨Nat.le_succ _, hM⟩)
  refine ⟨fun hs47 => ?_, fun hs47_5 => ?_⟩
  · refine q_aload_n hG rfl rfl ?_
    refine q_iload_n hG rfl rfl ?_
    refine q_callS0 hG rfl rfl rfl (s_L_kind ⟨by omega, by omega⟩ (fun c hc => ?_))
    refine q_iload hG rfl rfl ?_
    refine q_iload hG rfl rfl ?_
    refine q_aload_n hG rfl rfl ?_
    refine q_callV6 hG rfl rfl rfl hX9 (t_doors t ?_)
    refine q_iremP hG rfl ⟨by omega, by omega⟩ ⟨by omega, by omega⟩ (fun v195 w195 u195 => ?_)
    refine q_iload_n hG rfl rfl ?_
    refine q_bipush (v := 9) hG rfl rfl ?_
    refine q_iremP hG rfl ⟨by omega, by omega⟩ ⟨by omega, by omega⟩ (fun v199 w199 u199 => ?_)
    refine q_callS0 hG rfl rfl rfl (s_L_addCon t hM ⟨⟨by omega, by omega⟩, ⟨by omega, by omega⟩, ⟨by omega, by omega⟩, ⟨by omega, by omega⟩⟩ (fun v9 R2 C J t2 => ?_))
    refine q_istore hG rfl rfl ?_
    refine q_goto hG rfl ?_
    refine q_vret hG rfl ?_
    first
    | exact hp _ _ _ t2
    | exact hp _ _ _ (t.up ⟨Nat.le_succ _, hM⟩)
  refine ⟨fun hs47 => ?_, fun hs47_6 => ?_⟩
  · refine q_aload_n hG rfl rfl ?_
    refine q_iload_n hG rfl rfl ?_
    refine q_callS0 hG rfl rfl rfl (s_L_kind ⟨by omega, by omega⟩ (fun c hc => ?_))
    refine q_iload hG rfl rfl ?_
    refine q_iload hG rfl rfl ?_
    refine q_aload_n hG rfl rfl ?_
    refine q_callV6 hG rfl rfl rfl hX9 (t_doors t ?_)
    refine q_iremP hG rfl ⟨by omega, by omega⟩ ⟨by omega, by omega⟩ (fun v195 w195 u195 => ?_)
    refine q_iload_n hG rfl rfl ?_
    refine q_bipush (v := 9) hG rfl rfl ?_
    refine q_iremP hG rfl ⟨by omega, by omega⟩ ⟨by omega, by omega⟩ (fun v199 w199 u199 => ?_)
    refine q_callS0 hG rfl rfl rfl (s_L_addCon t hM ⟨⟨by omega, by omega⟩, ⟨by omega, by omega⟩, ⟨by omega, by omega⟩, ⟨by omega, by omega⟩⟩ (fun v9 R2 C J t2 => ?_))
    refine q_istore hG rfl rfl ?_
    refine q_goto hG rfl ?_
    refine q_vret hG rfl ?_
    first
    | exact hp _ _ _ t2
    | exact hp _ _ _ (t.up ⟨Nat.le_succ _, hM⟩)
  refine ⟨fun hs47 => ?_, fun hs47_7 => ?_⟩
  · refine q_aload_n hG rfl rfl ?_
    refine q_iload_n hG rfl rfl ?_
    refine q_callS0 hG rfl rfl rfl (s_L_kind ⟨by omega, by omega⟩ (fun c hc => ?_))
    refine q_iload hG rfl rfl ?_
    refine q_iload hG rfl rfl ?_
    refine q_aload_n hG rfl rfl ?_
    refine q_callV6 hG rfl rfl rfl hX9 (t_doors t ?_)
    refine q_iremP hG rfl ⟨by omega, by omega⟩ ⟨by omega, by omega⟩ (fun v195 w195 u195 => ?_)
    refine q_iload_n hG rfl rfl ?_
    refine q_bipush (v := 9) hG rfl rfl ?_
    refine q_iremP hG rfl ⟨by omega, by omega⟩ ⟨by omega, by omega⟩ (fun v199 w199 u199 => ?_)
    refine q_callS0 hG rfl rfl rfl (s_L_addCon t hM ⟨⟨by omega, by omega⟩, ⟨by omega, by omega⟩, ⟨by omega, by omega⟩, ⟨by omega, by omega⟩⟩ (fun v9 R2 C J t2 => ?_))
    refine q_istore hG rfl rfl ?_
    refine q_goto hG rfl ?_
    refine q_vret hG rfl ?_
    first
    | exact hp _ _ _ t2
    | exact hp _ _ _ (t.up ⟨Nat.le_succ _, hM⟩)
  refine ⟨fun hs47 => ?_, fun hs47_8 => ?_⟩
  · refine q_iload hG rfl rfl ?_
    refine q_iconst (v := 2) hG rfl rfl ?_
    refine q_icmp_le hG rfl ⟨by omega, by omega⟩ ⟨by omega, by omega⟩ (fun hc211 => ?_) (fun hc211 => ?_)
    · refine q_iconst (v := 0) hG rfl rfl ?_
      refine q_istore hG rfl rfl ?_
      refine q_goto hG rfl ?_
      refine q_vret hG rfl ?_
      first
      | exact hp _ _ _ t2
      | exact hp _ _ _ (t.up ⟨Nat.le_succ _, hM⟩)
    · refine q_aload_n hG rfl rfl ?_
      refine q_aload_n hG rfl rfl ?_
      refine q_iload_n hG rfl rfl ?_
      refine q_iload hG rfl rfl ?_
      refine q_iremP hG rfl ⟨by omega, by omega⟩ ⟨by omega, by omega⟩ (fun v219 w219 u219 => ?_)
      obtain ⟨m9, hm9⟩ : ∃ m : Nat, v219 = (m : Int) := ⟨v219.toNat, by omega⟩
      subst hm9
      refine q_callV6 hG rfl rfl rfl hX9 (t_conAt t (q := m9) (by omega) ?_)
      have hi9 := t.id (q := m9) (by omega)
      refine q_callS0 hG rfl rfl rfl (s_L_remove t hM ⟨by omega, by omega⟩ (fun v9 R2 C J t2 => ?_))
      refine q_goto hG rfl ?_
      refine q_istore hG rfl rfl ?_
      refine q_goto hG rfl ?_
      refine q_vret hG rfl ?_
      first
      | exact hp _ _ _ t2
      | exact hp _ _ _ (t.up ⟨Nat.le_succ _, hM⟩)
  refine ⟨fun hs47 => ?_, fun hs47_9 => ?_⟩
  · refine q_aload_n hG rfl rfl ?_
    refine q_callS0 hG rfl rfl rfl (s_L_pass t hM (fun v9 R2 C J t2 => ?_))
    refine q_istore hG rfl rfl ?_
    refine q_goto hG rfl ?_
    refine q_vret hG rfl ?_
    first
    | exact hp _ _ _ t2
    | exact hp _ _ _ (t.up ⟨Nat.le_succ _, hM⟩)
  refine ⟨fun hs47 => ?_, fun hs47_10 => ?_⟩
  · refine q_aload_n hG rfl rfl ?_
    refine q_callS0 hG rfl rfl rfl (s_L_pass t hM (fun v9 R2 C J t2 => ?_))
    refine q_istore hG rfl rfl ?_
    refine q_goto hG rfl ?_
    refine q_vret hG rfl ?_
    first
    | exact hp _ _ _ t2
    | exact hp _ _ _ (t.up ⟨Nat.le_succ _, hM⟩)
  refine q_aload_n hG rfl rfl ?_
  refine q_callS0 hG rfl rfl rfl (s_L_settle t hM (fun v9 R2 C J t2 => ?_))
  refine q_istore hG rfl rfl ?_
  refine q_vret hG rfl ?_
  first
  | exact hp _ _ _ t2
  | exact hp _ _ _ (t.up ⟨Nat.le_succ _, hM⟩)
theorem s_L_holds {d : Nat} {B : HP} {I : IM} {Post : Out → HP → Prop} {M L D : Nat} {R : RW} (t : TI M L D R B I) {q : Nat} (hq : (q : Int) < R 1) {h g : Int} (hh : 0 ≤ h ∧ h ≤ 40) (hg : 0 ≤ g ∧ g ≤ 40) (p1 : hoP (R (29 + 5 * q + 1)) h g (R (29 + 5 * q + 4)) → Post (.inl (some (.int (i3 1)))) (wI B I)) (p0 : ¬ hoP (R (29 + 5 * q + 1)) h g (R (29 + 5 * q + 4)) → Post (.inl (some (.int (i3 0)))) (wI B I)) : Sp (d + 4) k_L_holds [.ref 0, .int (i3 (R (29 + 5 * q))), .int (i3 (h)), .int (i3 (g))] (wI B I) Post := by
  refine Sp_intro md_L_holds rfl rfl (fun G hG => ?_)
  have b0 := t.b0
  have b1 := t.b1
  have dd := t.dd
  have hX9 := t.lx.1
  obtain ⟨k1, k2, k3, k4⟩ := t.con hq
  show G 0 [some (.ref 0), some (.int (i3 (R (29 + 5 * q)))), some (.int (i3 (h))), some (.int (i3 (g))), none, none] [] (wI B I)
  refine q_aload_n hG rfl rfl ?_
  refine q_iload_n hG rfl rfl ?_
  refine q_callV6 hG rfl rfl rfl hX9 (t_kind t hq ?_)
  refine q_istore hG rfl rfl ?_
  refine q_aload_n hG rfl rfl ?_
  refine q_iload_n hG rfl rfl ?_
  refine q_callV6 hG rfl rfl rfl hX9 (t_gap t hq ?_)
  refine q_istore hG rfl rfl ?_
  refine q_iload hG rfl rfl ?_
  refine q_bipush (v := 60) hG rfl rfl ?_
  refine q_icmp_ne hG rfl ⟨by omega, by omega⟩ ⟨by omega, by omega⟩ (fun hc18 => ?_) (fun hc18 => ?_)
  · refine q_iload hG rfl rfl ?_
    refine q_bipush (v := 61) hG rfl rfl ?_
    refine q_icmp_ne hG rfl ⟨by omega, by omega⟩ ⟨by omega, by omega⟩ (fun hc41 => ?_) (fun hc41 => ?_)
    · refine q_iload_n hG rfl rfl ?_
      refine q_iload_n hG rfl rfl ?_
      refine q_isub hG rfl ?_
      refine q_abs hG rfl ⟨by omega, by omega⟩ rfl ?_
      refine q_iload hG rfl rfl ?_
      refine q_icmp_lt hG rfl ⟨by omega, by omega⟩ ⟨by omega, by omega⟩ (fun hc68 => ?_) (fun hc68 => ?_)
      · refine q_iconst (v := 0) hG rfl rfl ?_
        refine q_iret5 hG rfl rfl (by decide) ?_
        refine p0 ?_
        unfold hoP
        (repeat' split) <;> omega
      · refine q_iconst (v := 1) hG rfl rfl ?_
        refine q_goto hG rfl ?_
        refine q_iret5 hG rfl rfl (by decide) ?_
        refine p1 ?_
        unfold hoP
        (repeat' split) <;> omega
    · refine q_iload_n hG rfl rfl ?_
      refine q_iload hG rfl rfl ?_
      refine q_iadd hG rfl ?_
      refine q_iload_n hG rfl rfl ?_
      refine q_icmp_ne hG rfl ⟨by omega, by omega⟩ ⟨by omega, by omega⟩ (fun hc49 => ?_) (fun hc49 => ?_)
      · refine q_iconst (v := 0) hG rfl rfl ?_
        refine q_goto hG rfl ?_
        refine q_iret5 hG rfl rfl (by decide) ?_
        refine p0 ?_
        unfold hoP
        (repeat' split) <;> omega
      · refine q_iconst (v := 1) hG rfl rfl ?_
        refine q_goto hG rfl ?_
        refine q_iret5 hG rfl rfl (by decide) ?_
        refine p1 ?_
        unfold hoP
        (repeat' split) <;> omega
  · refine q_iload_n hG rfl rfl ?_
    refine q_iload hG rfl rfl ?_
    refine q_iadd hG rfl ?_
    refine q_iload_n hG rfl rfl ?_
    refine q_icmp_gt hG rfl ⟨by omega, by omega⟩ ⟨by omega, by omega⟩ (fun hc26 => ?_) (fun hc26 => ?_)
    · refine q_iconst (v := 0) hG rfl rfl ?_
      refine q_goto hG rfl ?_
      refine q_iret5 hG rfl rfl (by decide) ?_
      refine p0 ?_
      unfold hoP
      (repeat' split) <;> omega
    · refine q_iconst (v := 1) hG rfl rfl ?_
      refine q_goto hG rfl ?_
      refine q_iret5 hG rfl rfl (by decide) ?_
      refine p1 ?_
      unfold hoP
      (repeat' split) <;> omega
theorem s_L_isLine {d : Nat} {B : HP} {I : IM} {Post : Out → HP → Prop} (hX : LX B) {l : List Int} (hl : sbT I 158 159 l) (hl9 : l.length ≤ 16) {a0 w z : Nat} (hk : oT B I a0 w z l) (hp : Post (.inl (some (.int (i3 1)))) (wI B I)) : Sp (d + 6) k_L_isLine [.ref 0, .int (i3 ((l.length : Int))), .ref a0] (wI B I) Post := by
  refine Sp_intro md_L_isLine rfl rfl (fun G hG => ?_)
  have hX9 := hX.1
  have k1 := hk.1
  have kc := hk.2.2.2.2.2.2.1
  have lq : ∀ (mz : Nat) (i : Nat), l.length - i = mz → i ≤ l.length → G 12 [some (.ref 0), some (.int (i3 (l.length : Int))), some (.ref a0), some (.int (i3 (i : Int)))] [] (wI B I) := by
    intro mz
    induction mz using Nat.strongRecOn with
    | ind mz ih =>
      intro i hme hi
      refine q_iload_n hG rfl rfl ?_
      refine q_iload_n hG rfl rfl ?_
      refine q_icmp_ge hG rfl ⟨by omega, by omega⟩ ⟨by omega, by omega⟩ (fun hc14 => ?_) (fun hc14 => ?_)
      · refine q_iconst (v := 1) hG rfl rfl ?_
        refine q_iret5 hG rfl rfl (by decide) ?_
        exact hp
      · refine q_aload_n hG rfl rfl ?_
        refine q_iload_n hG rfl rfl ?_
        refine q_callV6 hG rfl rfl rfl hX9 (s_X_outputAt hX hl hl9 (x := (i : Int)) ⟨by omega, by omega⟩ (fun e => absurd ⟨by omega, by omega⟩ e) (fun _ => ?_))
        refine q_aload_n hG rfl rfl ?_
        refine q_iload_n hG rfl rfl ?_
        refine q_callV6 hG rfl rfl rfl k1 (s_T_sat hk (j := (i : Int)) ⟨by omega, by omega⟩ ?_)
        have hc9 := kc.at (i := (i : Int).toNat) (by omega)
        refine q_icmp_eq hG rfl ⟨by omega, by omega⟩ ⟨by omega, by omega⟩ (fun hc27 => ?_) (fun hc27 => absurd (by omega) hc27)
        refine q_iinc (c := 1) hG rfl rfl rfl rfl ?_
        refine q_goto hG rfl ?_
        rw [show (i : Int) + 1 = ((i + 1 : Nat) : Int) by omega]
        exact ih _ (by omega) (i + 1) rfl (by omega)
  show G 0 [some (.ref 0), some (.int (i3 ((l.length : Int)))), some (.ref a0), none] [] (wI B I)
  refine q_iload_n hG rfl rfl ?_
  refine q_aload_n hG rfl rfl ?_
  refine q_callV6 hG rfl rfl rfl k1 (s_T_slen hk ?_)
  refine q_icmp_eq hG rfl ⟨by omega, by omega⟩ ⟨by omega, by omega⟩ (fun hc5 => ?_) (fun hc5 => absurd (by omega) hc5)
  refine q_iconst (v := 0) hG rfl rfl ?_
  refine q_istore_n hG rfl rfl ?_
  exact lq _ 0 rfl (by omega)
theorem s_L_build {d : Nat} {B : HP} {I : IM} {Post : Out → HP → Prop} {M L : Nat} {R : RW} (t : TI M L 0 R B I) (hM : M + 30 ≤ 5000) (hL : L ≤ 260) (h0 : R 0 = 0) (hp : ∀ (R2 : RW) (C : HP) (J : IM), TI (M + 20) L 4 R2 C J → Post (.inl none) (wI C J)) : Sp (d + 9) k_L_build [.ref 0, .ref (BIG + 20)] (wI B I) Post := by
  refine Sp_intro md_L_build rfl rfl (fun G hG => ?_)
  have l3 : ∀ (mz : Nat) (k : Nat) (R : RW) (B : HP) (I : IM) (l2 l4 : Option Value), 12 - k = mz → k ≤ 12 → TI (M + 8 + k) L 4 R B I → (l2 = none ∨ ∃ v : Int, l2 = some (.int (i3 v))) → G 105 [some (.ref 0), some (.ref (BIG + 20)), l2, some (.int (i3 (k : Int))), l4] [] (wI B I) := by
    intro mz
    induction mz using Nat.strongRecOn with
    | ind mz ih =>
      intro k R B I l2 l4 hme hk t h2
      have hn9 := t.nn
      refine q_iload_n hG rfl rfl ?_
      refine q_bipush (v := 12) hG rfl rfl ?_
      refine q_icmp_ge hG rfl ⟨by omega, by omega⟩ ⟨by omega, by omega⟩ (fun hc108 => ?_) (fun hc108 => ?_)
      · refine q_vret hG rfl ?_
        obtain rfl : k = 12 := by omega
        exact hp _ _ _ t
      · refine q_aload_n hG rfl rfl ?_
        refine q_aload_n hG rfl rfl ?_
        refine q_bipush (v := 24) hG rfl rfl ?_
        refine q_iconst (v := 4) hG rfl rfl ?_
        refine q_iload_n hG rfl rfl ?_
        refine q_imul hG rfl ?_
        refine q_iadd hG rfl ?_
        rw [show (24 : Int) + 4 * (k : Int) = ((24 + 4 * k : Nat) : Int) by omega]
        refine q_callS0 hG rfl rfl rfl (s_L_acts t (by omega) hL (k := 24 + 4 * k) (by omega) (by omega) (fun R2 C J t2 => ?_))
        refine q_iinc (c := 1) hG rfl rfl rfl (by rcases h2 with e | ⟨v, e⟩ <;> subst e <;> rfl) ?_
        refine q_goto hG rfl ?_
        rw [show (k : Int) + 1 = ((k + 1 : Nat) : Int) by omega]
        exact ih _ (by omega) (k + 1) _ _ _ _ _ rfl (by omega) t2 h2
  have l2q : ∀ (mz : Nat) (k : Nat) (R : RW) (B : HP) (I : IM) (l2 l4 : Option Value), 4 - k = mz → k ≤ 4 → TI (M + 4 + k) L 4 R B I → (l2 = none ∨ ∃ v : Int, l2 = some (.int (i3 v))) → G 46 [some (.ref 0), some (.ref (BIG + 20)), l2, some (.int (i3 (k : Int))), l4] [] (wI B I) := by
    intro mz
    induction mz using Nat.strongRecOn with
    | ind mz ih =>
      intro k R B I l2 l4 hme hk t h2
      have hn9 := t.nn
      refine q_iload_n hG rfl rfl ?_
      refine q_iconst (v := 4) hG rfl rfl ?_
      refine q_icmp_ge hG rfl ⟨by omega, by omega⟩ ⟨by omega, by omega⟩ (fun hc48 => ?_) (fun hc48 => ?_)
      · obtain rfl : k = 4 := by omega
        refine q_iconst (v := 0) hG rfl rfl ?_
        refine q_istore_n hG rfl (by rcases h2 with e | ⟨v, e⟩ <;> subst e <;> rfl) ?_
        exact l3 _ 0 _ _ _ _ _ rfl (by omega) t h2
      · refine q_aload_n hG rfl rfl ?_
        refine q_aload_n hG rfl rfl ?_
        refine q_bipush (v := 8) hG rfl rfl ?_
        refine q_iload_n hG rfl rfl ?_
        refine q_iadd hG rfl ?_
        rw [show (8 : Int) + (k : Int) = ((8 + k : Nat) : Int) by omega]
        refine q_bipush (v := 6) hG rfl rfl ?_
        refine q_callS0 hG rfl rfl rfl (s_L_some t.sc hL (k := 8 + k) (by omega) (n := 6) ⟨by omega, by omega⟩ (fun a aa ab => ?_))
        refine q_callS0 hG rfl rfl rfl (s_L_kind ⟨by omega, by omega⟩ (fun c hc => ?_))
        refine q_aload_n hG rfl rfl ?_
        refine q_bipush (v := 12) hG rfl rfl ?_
        refine q_iload_n hG rfl rfl ?_
        refine q_iadd hG rfl ?_
        rw [show (12 : Int) + (k : Int) = ((12 + k : Nat) : Int) by omega]
        refine q_iconst (v := 4) hG rfl rfl ?_
        refine q_callS0 hG rfl rfl rfl (s_L_some t.sc hL (k := 12 + k) (by omega) (n := 4) ⟨by omega, by omega⟩ (fun b ba bb => ?_))
        refine q_aload_n hG rfl rfl ?_
        refine q_bipush (v := 16) hG rfl rfl ?_
        refine q_iload_n hG rfl rfl ?_
        refine q_iadd hG rfl ?_
        rw [show (16 : Int) + (k : Int) = ((16 + k : Nat) : Int) by omega]
        refine q_iconst (v := 4) hG rfl rfl ?_
        refine q_callS0 hG rfl rfl rfl (s_L_some t.sc hL (k := 16 + k) (by omega) (n := 4) ⟨by omega, by omega⟩ (fun e ea eb => ?_))
        refine q_aload_n hG rfl rfl ?_
        refine q_bipush (v := 20) hG rfl rfl ?_
        refine q_iload_n hG rfl rfl ?_
        refine q_iadd hG rfl ?_
        rw [show (20 : Int) + (k : Int) = ((20 + k : Nat) : Int) by omega]
        refine q_bipush (v := 9) hG rfl rfl ?_
        refine q_callS0 hG rfl rfl rfl (s_L_some t.sc hL (k := 20 + k) (by omega) (n := 9) ⟨by omega, by omega⟩ (fun f fa fb => ?_))
        refine q_callS0 hG rfl rfl rfl (s_L_addCon t (by omega) ⟨⟨by omega, by omega⟩, ⟨by omega, by omega⟩, ⟨by omega, by omega⟩, ⟨by omega, by omega⟩⟩ (fun v9 R2 C J t2 => ?_))
        refine q_istore_n hG rfl rfl ?_
        refine q_iinc (c := 1) hG rfl rfl rfl rfl ?_
        refine q_goto hG rfl ?_
        rw [show (k : Int) + 1 = ((k + 1 : Nat) : Int) by omega]
        exact ih _ (by omega) (k + 1) _ _ _ _ _ rfl (by omega) t2 (Or.inr ⟨_, rfl⟩)
  have l1 : ∀ (mz : Nat) (k : Nat) (R : RW) (B : HP) (I : IM) (l2 l4 : Option Value), 4 - k = mz → k ≤ 4 → TI (M + k) L k R B I → R 0 = (k : Int) → (l2 = none ∨ ∃ v : Int, l2 = some (.int (i3 v))) → G 2 [some (.ref 0), some (.ref (BIG + 20)), l2, some (.int (i3 (k : Int))), l4] [] (wI B I) := by
    intro mz
    induction mz using Nat.strongRecOn with
    | ind mz ih =>
      intro k R B I l2 l4 hme hk t h0 h2
      have hn9 := t.nn
      refine q_iload_n hG rfl rfl ?_
      refine q_iconst (v := 4) hG rfl rfl ?_
      refine q_icmp_ge hG rfl ⟨by omega, by omega⟩ ⟨by omega, by omega⟩ (fun hc4 => ?_) (fun hc4 => ?_)
      · obtain rfl : k = 4 := by omega
        refine q_iconst (v := 0) hG rfl rfl ?_
        refine q_istore_n hG rfl (by rcases h2 with e | ⟨v, e⟩ <;> subst e <;> rfl) ?_
        exact l2q _ 0 _ _ _ _ _ rfl (by omega) t h2
      · refine q_aload_n hG rfl rfl ?_
        refine q_iload_n hG rfl rfl ?_
        refine q_bipush (v := 25) hG rfl rfl ?_
        refine q_callS0 hG rfl rfl rfl (s_L_some t.sc hL (k := k) (by omega) (n := 25) ⟨by omega, by omega⟩ (fun a aa ab => ?_))
        refine q_istore hG rfl rfl ?_
        refine q_aload_n hG rfl rfl ?_
        refine q_iload hG rfl rfl ?_
        refine q_iload hG rfl rfl ?_
        refine q_aload_n hG rfl rfl ?_
        refine q_iconst (v := 4) hG rfl rfl ?_
        refine q_iload_n hG rfl rfl ?_
        refine q_iadd hG rfl ?_
        refine q_bipush (v := 41) hG rfl rfl ?_
        refine q_iload hG rfl rfl ?_
        refine q_isub hG rfl ?_
        rw [show (4 : Int) + (k : Int) = ((4 + k : Nat) : Int) by omega]
        refine q_callS0 hG rfl rfl rfl (s_L_some t.sc hL (k := 4 + k) (by omega) (n := (41 - a)) ⟨by omega, by omega⟩ (fun b ba bb => ?_))
        refine q_iadd hG rfl ?_
        refine q_callS0 hG rfl rfl rfl (s_L_addDoor t (by omega) ⟨by omega, by omega⟩ ⟨by omega, by omega⟩ (fun v9 R2 C J t2 z9 => ?_))
        have e9 : R2 0 = R 0 + 1 := z9 ⟨by omega, by omega, by omega⟩ (by omega)
        refine q_istore_n hG rfl rfl ?_
        refine q_iinc (c := 1) hG rfl rfl rfl rfl ?_
        refine q_goto hG rfl ?_
        rw [show (k : Int) + 1 = ((k + 1 : Nat) : Int) by omega]
        exact ih _ (by omega) (k + 1) _ _ _ _ _ rfl (by omega) ⟨t2.1, t2.2.1, t2.2.2.1, t2.2.2.2.1, t2.2.2.2.2.1, t2.2.2.2.2.2.1, t2.2.2.2.2.2.2.1, t2.wf, t2.asc, by rw [e9]; omega⟩ (by rw [e9]; omega) (Or.inr ⟨_, rfl⟩)
  show G 0 [some (.ref 0), some (.ref (BIG + 20)), none, none, none] [] (wI B I)
  refine q_iconst (v := 0) hG rfl rfl ?_
  refine q_istore_n hG rfl rfl ?_
  exact l1 _ 0 _ _ _ _ _ rfl (by omega) t h0 (Or.inl rfl)
