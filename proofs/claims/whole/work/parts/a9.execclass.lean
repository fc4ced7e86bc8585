/-! the class executes the script -/
theorem cm_args {l : List Int} {p : Nat} (h : (cm l p).1 = true) : (1 ≤ (vb l p).1 ∧ (vb l p).1 ≤ 8) ∧ ((vb l p).1 ≤ 5 → 0 < (cm l p).2.2.1.length ∧ (0 ≤ (cm l p).2.2.1.getD 0 0 ∧ (cm l p).2.2.1.getD 0 0 ≤ 99)) ∧ ((vb l p).1 ≤ 4 → 1 < (cm l p).2.2.1.length ∧ (0 ≤ (cm l p).2.2.1.getD 1 0 ∧ (cm l p).2.2.1.getD 1 0 ≤ 99)) ∧ ((vb l p).1 = 2 ∨ (vb l p).1 = 3 ∨ (vb l p).1 = 4 → 2 < (cm l p).2.2.1.length ∧ (0 ≤ (cm l p).2.2.1.getD 2 0 ∧ (cm l p).2.2.1.getD 2 0 ≤ 99)) ∧ ((vb l p).1 = 4 → (cm l p).2.2.2 = 60 ∨ (cm l p).2.2.2 = 61 ∨ (cm l p).2.2.2 = 35) := by
  obtain ⟨f1, f2, f3, f4, f5⟩ := vb_form l p
  have hl := (cm_ok h).2.2
  have hn := fm_ns l p (vb l p).2
  rw [f3] at hl
  have hn : nsP (cm l p).2.2.1 := hn
  refine ⟨f4, fun z => ?_, fun z => ?_, fun z => ?_, fun z => ?_⟩
  · have q : 0 < (cm l p).2.2.1.length := by
      rw [hl]
      split
      · omega
      · split
        · omega
        · split
          · omega
          · omega
    exact ⟨q, hn 0 q⟩
  · have q : 1 < (cm l p).2.2.1.length := by
      rw [hl]
      split
      · omega
      · rw [if_pos (by omega)]; omega
    exact ⟨q, hn 1 q⟩
  · have q : 2 < (cm l p).2.2.1.length := by
      rw [hl, if_neg (by omega), if_pos z]; omega
    exact ⟨q, hn 2 q⟩
  · have e : (vb l p).2 = fBind := f5.mp z
    have eC : cm l p = fm l p fBind := by unfold cm; rw [e]
    rw [eC] at h ⊢
    have h : (stp l (stp l (stp l (stp l (stp l (true, p, [], 0) 68) 75) 68) 43) 78).1 = true := h
    show (stp l (stp l (stp l (stp l (stp l (true, p, [], 0) 68) 75) 68) 43) 78).2.2.2 = 60 ∨ (stp l (stp l (stp l (stp l (stp l (true, p, [], 0) 68) 75) 68) 43) 78).2.2.2 = 61 ∨ (stp l (stp l (stp l (stp l (stp l (true, p, [], 0) 68) 75) 68) 43) 78).2.2.2 = 35
    rw [stp_kd (by decide), stp_kd (by decide), stp_kd (by decide)]
    have g := stp_t (stp_t (stp_t h))
    exact (stp_ok (by decide) g).2.2.2.2.2 rfl
/-- what becomes of the data, command by command -/
noncomputable def seqR (R : RW) (l : List Int) : Nat → CO
  | 0 => .inl R
  | k + 1 => match seqR R l k with
    | .inl R' => outL R' l k
    | .inr o => .inr o
theorem seqR_go {R R' : RW} {l : List Int} {k : Nat} (h : seqR R l k = .inl R') : seqR R l (k + 1) = outL R' l k := by
  show (match seqR R l k with | .inl R' => outL R' l k | .inr o => .inr o) = _
  rw [h]
theorem seqR_no {R : RW} {l : List Int} {o : (Int × Int) ⊕ Unit} {k : Nat} (h : seqR R l k = .inr o) : ∀ j, k ≤ j → seqR R l j = .inr o := by
  intro j hj
  induction j with
  | zero =>
    have : k = 0 := by omega
    subst this; exact h
  | succ j ih =>
    by_cases e : k = j + 1
    · rw [← e]; exact h
    · show (match seqR R l j with | .inl R' => outL R' l j | .inr o => .inr o) = _
      rw [ih (by omega)]
/-- command d doesn't succeed -/
def flA (R : RW) (l : List Int) (d : Nat) (o : (Int × Int) ⊕ Unit) : Prop := ∃ R', seqR R l d = .inl R' ∧ outL R' l d = .inr o
theorem flA.one {R : RW} {l : List Int} {d d' : Nat} {o o' : (Int × Int) ⊕ Unit} (h : flA R l d o) (h2 : flA R l d' o') : d = d' ∧ o = o' := by
  obtain ⟨R1, a1, a2⟩ := h
  obtain ⟨R2, b1, b2⟩ := h2
  have e1 : seqR R l (d + 1) = .inr o := (seqR_go a1).trans a2
  have e2 : seqR R l (d' + 1) = .inr o' := (seqR_go b1).trans b2
  have ed : d = d' := by
    by_cases x : d < d'
    · have := seqR_no e1 d' (by omega)
      rw [b1] at this; cases this
    · by_cases y : d' < d
      · have := seqR_no e2 d (by omega)
        rw [a1] at this; cases this
      · omega
  subst ed
  rw [e1] at e2
  exact ⟨rfl, Sum.inr.inj e2⟩
theorem flA.no {R R2 : RW} {l : List Int} {d k : Nat} {o : (Int × Int) ⊕ Unit} (h : flA R l d o) (hk : d < k) (h2 : seqR R l k = .inl R2) : False := by
  obtain ⟨R1, a1, a2⟩ := h
  have e1 : seqR R l (d + 1) = .inr o := (seqR_go a1).trans a2
  have := seqR_no e1 k (by omega)
  rw [h2] at this; cases this
theorem CSt.of {I J : IM} {R : RW} {c : Int} {h : Nat → RW} {sv : Int} {SR : RW} {eo why det cau : Int} (hC : CSt I R c h sv SR eo why det cau) {R2 : RW} {c2 : Int} {h2 : Nat → RW} {eo2 why2 det2 cau2 : Int} (hR : RepC J 1 R2) (hH : ∃ nx, HistC J c2 nx h2) (hr : ∀ a, (133 ≤ a ∧ a ≤ 145) ∨ a = 152 ∨ a = 157 → J a = I a) (h3 : J 0 3 = I 0 3) (h10 : J 0 10 = eo2) (h11 : J 0 11 = why2) (h12 : J 0 12 = det2) (h13 : J 0 13 = cau2) : CSt J R2 c2 h2 sv SR eo2 why2 det2 cau2 := by
  obtain ⟨a1, a2, a3, a4, a5, a6, a7, a8, a9⟩ := hC
  exact ⟨hR, hH, by rw [h3]; exact a3, fun z => (a4 z).row (fun a u v => hr a (by omega)), h10, h11, h12, h13, fun k hk => by rw [hr 152 (by omega), hr 157 (by omega)]; exact a9 k hk⟩
/-- what the script's execution leaves -/
def xfr (I J : IM) : Prop := ∀ a, (a = 158 ∨ a = 159 ∨ a = 162 ∨ 178 ≤ a) → J a = I a
/-- the data is put aside, the script is read -/
def exP (I J : IM) (nx N : Nat) (R : RW) (l : List Int) (v : Nat) : Prop := RepC J (16 + 13 * nx) R ∧ (∀ a, a ≤ 159 → (a < 16 + 13 * nx ∨ 16 + 13 * nx + 12 < a) → J a = I a) ∧ sbT J 161 v [] ∧ J 160 2 = ((N + 1 : Nat) : Int) ∧ (∀ j, j ≤ N → cmS J l j) ∧ xfr I J

theorem s_P_execute {d : Nat} {B : HP} {I : IM} {Post : Out → HP → Prop} (hX : LX B) {R : RW} {c : Int} {h : Nat → RW} {sv : Int} {SR : RW} {eo why det cau q : Int} (hC : CSt I R c h sv SR eo why det cau) (hW : WfR q R) (hq : q + 20000 ≤ 2000000000) {v n : Nat} {l : List Int} (hT : txS B I v n l) (hl60 : l.length ≤ 60) (hkf : kFm B I) (pS : ∀ e : Nat, outF l e → ∀ J : IM, CSt J R c h sv SR (e : Int) why det cau → sbT J 161 v [] → xfr I J → Post (.inr 0) (wI (junk B 6) J)) (pK : ∀ (N : Nat) (R2 : RW), outS l N → N < 12 → seqR R l (N + 1) = .inl R2 → WfR (q + 13000) R2 → ∀ J : IM, CSt J R2 (c8 c) (psh R h) sv SR eo why det cau → sbT J 161 v [] → xfr I J → Post (.inl (some (.int (i3 ((N + 1 : Nat) : Int))))) (wI B J)) (pR : ∀ (N d : Nat) (r e : Int), outS l N → d ≤ N → flA R l d (.inl (r, e)) → ∀ J : IM, CSt J R c h sv SR eo 6 (d : Int) r → sbT J 161 v [] → xfr I J → Post (.inr 1) (wI (junk B 6) J)) (pF : ∀ (N d : Nat), outS l N → d ≤ N → flA R l d (.inr ()) → ∀ J : IM, CSt J R c h sv SR eo why det cau → sbT J 161 v [] → xfr I J → Post (.inr 4) (wI (junk B 6) J)) : Sp (d + 11) k_X8_execute [.ref 0] (wI B I) Post := by
  refine Sp_intro md_X8_execute rfl rfl (fun G hG => ?_)
  have hX0 := hX
  obtain ⟨x0, x1, x2, x3, x4, x5, x6, x7, x8, x9, x10, x11, x12, x13, x14, x15, x16, x17, x18, x19, x20, x21, x22, x23, x24, x25, x26, x27, x28, x29, x30, x31, x32, x33, x34, x35, x36, x37, x38, x39, x40, x41, x42, x43, x44⟩ := hX
  have hC0 := hC
  obtain ⟨hR, ⟨nx, hH⟩, e3, e4, e5, e6, e7, e8, e9⟩ := hC
  have hn1 : R 1 ≤ 10 := hW.2.1.2
  have hnx := hH.2.2.2.1
  obtain ⟨T1, T2, T3, T4, T5⟩ := hT
  have lp : ∀ (mz : Nat) (k : Nat) (N : Nat) (J3 : IM) (J : IM) (R' : RW) (z : Int) (last : Int), N + 1 - k = mz → outS l N → exP I J3 nx N R l v → k ≤ N + 1 → N < 12 → seqR R l k = .inl R' → WfR (q + 1000 * k) R' → RepC J 1 R' → dfr J3 J → (0 ≤ z ∧ z ≤ 2000000000) → G 63 [some (.ref 0), some (.int (i3 1)), some (.int (i3 z)), some (.int (i3 last)), some (.int (i3 (k : Int)))] [] (wI B J) := by
    intro mz
    induction mz using Nat.strongRecOn with
    | ind mz ih =>
      intro k N J3 J R' z last hme hS hP hk hN hseq hWk hRJ hfr hz
      refine q_iload_n hG rfl rfl ?_
      refine q_if_lt hG rfl ⟨by omega, by omega⟩ (fun hc64 => absurd hc64 (by omega)) (fun hc64 => ?_)
      refine q_iload hG rfl rfl ?_
      refine q_aload_n hG rfl rfl ?_
      refine q_getR hG rfl (by assumption) (by assumption) ?_
      refine q_getI0v (v := ((N + 1 : Nat) : Int)) hG rfl (by assumption) (by rw [hfr 160 (by omega)]; exact hP.2.2.2.1) ?_
      refine q_icmp_ge hG rfl ⟨by omega, by omega⟩ ⟨by omega, by omega⟩ (fun hc76 => ?_) (fun hc76 => ?_)
      · refine q_iload_n hG rfl rfl ?_
        refine q_if_ge hG rfl ⟨by omega, by omega⟩ (fun hc96 => ?_) (fun hc96 => absurd (by omega) hc96)
        refine q_iload_n hG rfl rfl ?_
        refine q_bipush (v := -2) hG rfl rfl ?_
        refine q_icmp_ne hG rfl ⟨by omega, by omega⟩ ⟨by omega, by omega⟩ (fun hc113 => ?_) (fun hc113 => absurd (by omega) hc113)
        refine q_iload_n hG rfl rfl ?_
        refine q_iconst (v := -1) hG rfl rfl ?_
        refine q_icmp_ne hG rfl ⟨by omega, by omega⟩ ⟨by omega, by omega⟩ (fun hc129 => ?_) (fun hc129 => absurd (by omega) hc129)
        have hHJ : HistC J c nx h := by
          obtain ⟨g1, g2, g3, g4, g5⟩ := hH
          refine ⟨by rw [hfr 14 (by omega), hP.2.1 14 (by omega) (by omega)]; exact g1, g2, by rw [hfr 14 (by omega), hP.2.1 14 (by omega) (by omega)]; exact g3, g4, fun j hj => (g5 j hj).row (fun a u w => ?_)⟩
          rw [hfr a (by omega), hP.2.1 a (by omega) (by omega)]
        have hRP : RepC J (16 + 13 * nx) R := hP.1.row (fun a u w => hfr a (by omega))
        refine q_aload_n hG rfl rfl ?_
        refine q_getR hG rfl (by assumption) (by assumption) ?_
        refine q_callV6 hG rfl rfl rfl (by assumption) (s_H_keep hX0 (nx := nx) (c := c) (h := h) hHJ (fun J6 k1 k2 k3 => ?_))
        have hHK := hHJ.keep hRP k1 k2 k3
        refine q_aload_n hG rfl rfl ?_
        refine q_getR hG rfl (by assumption) (by assumption) ?_
        refine q_getI0v (v := ((N + 1 : Nat) : Int)) hG rfl (by assumption) (by rw [k3 160 (by omega), hfr 160 (by omega)]; exact hP.2.2.2.1) ?_
        refine q_iret0 hG rfl rfl ?_
        obtain ⟨P1, P2, P3, P4, P5, P6⟩ := hP
        exact pK N R' hS hN (by rw [show N + 1 = k by omega]; exact hseq) (hWk.up (by omega)) J6 (hC0.of (hRJ.row (fun a u w => k3 a (by omega))) ⟨_, hHK⟩ (fun a ha => by rw [k3 a (by omega), hfr a (by omega), P2 a (by omega) (by omega)]) (by rw [k3 0 (by omega), hfr 0 (by omega), P2 0 (by omega) (by omega)]) (by rw [k3 0 (by omega), hfr 0 (by omega), P2 0 (by omega) (by omega)]; exact e5) (by rw [k3 0 (by omega), hfr 0 (by omega), P2 0 (by omega) (by omega)]; exact e6) (by rw [k3 0 (by omega), hfr 0 (by omega), P2 0 (by omega) (by omega)]; exact e7) (by rw [k3 0 (by omega), hfr 0 (by omega), P2 0 (by omega) (by omega)]; exact e8)) (P3.row (by rw [k3 161 (by omega), hfr 161 (by omega)]) (by rw [k3 v (by omega), hfr v (by omega)])) (fun a ha => by rw [k3 a (by omega), hfr a (by omega), P6 a ha])
      · have hkN : k ≤ N := by omega
        have hck : (cm l (cp l k)).1 = true := if y : k = N then by rw [y]; exact hS.2.1 else (hS.1 k (by omega)).1
        have hcmS := hP.2.2.2.2.1 k hkN
        obtain ⟨ga, gb, gc, gd, ge⟩ := cm_args hck
        refine q_aload_n hG rfl rfl ?_
        refine q_iload hG rfl rfl ?_
        refine q_callV6 hG rfl rfl rfl (by assumption) (s_X_run (q := q + 1000 * k) (c := (cm l (cp l k)).2.2.1.getD 2 0) hX0 hRJ hWk (by omega) (i := k) (by omega) ga (fun y => (gb y).2) (fun y => (gc y).2) (fun y => (gd y).2) ge (by rw [hfr 163 (by omega)]; exact hcmS.1) (fun y => by rw [hfr 164 (by omega)]; exact hcmS.2.2 (by have := ge y; omega)) (fun y => by rw [hfr _ (by omega)]; exact hcmS.2.1 0 (gb y).1) (fun y => by rw [hfr _ (by omega)]; exact hcmS.2.1 1 (gc y).1) (fun y => by rw [hfr _ (by omega)]; exact hcmS.2.1 2 (gd y).1) (fun R2 e J4 z2 hz2 o1 o2 => ?_) (fun r e0 e J4 o => ?_) (fun e => ?_))
        · refine q_istore_n hG rfl rfl ?_
          refine q_iload hG rfl rfl ?_
          refine q_istore_n hG rfl rfl ?_
          refine q_iinc (c := 1) hG rfl rfl rfl rfl ?_
          refine q_goto hG rfl ?_
          refine ih _ (by omega) (k + 1) N J3 J4 R2 z2 (k : Int) rfl hS hP (by omega) hN ((seqR_go hseq).trans e) ?_ o1 (fun a ha => (o2 a ha).trans (hfr a ha)) hz2
          have := outC_W hWk ⟨ga.1, ga.2⟩ e
          exact this.up (by omega)
        · refine q_istore_n hG rfl rfl ?_
          refine q_iload hG rfl rfl ?_
          refine q_istore_n hG rfl rfl ?_
          refine q_iinc (c := 1) hG rfl rfl rfl rfl ?_
          refine q_goto hG rfl ?_
          obtain ⟨P1, P2, P3, P4, P5, P6⟩ := hP
          have hf0 : J 0 = J3 0 := hfr 0 (by omega)
          have hfx : ∀ a, (14 ≤ a ∧ a ≤ 145 ∨ 150 ≤ a) → J4 a = J3 a := fun a ha => (o.2 a (by omega)).trans (hfr a (by omega))
          have hHJ : HistC J4 c nx h := by
            obtain ⟨g1, g2, g3, g4, g5⟩ := hH
            refine ⟨by rw [hfx 14 (by omega), P2 14 (by omega) (by omega)]; exact g1, g2, by rw [hfx 14 (by omega), P2 14 (by omega) (by omega)]; exact g3, g4, fun j hj => (g5 j hj).row (fun a u w => ?_)⟩
            rw [hfx a (by omega), P2 a (by omega) (by omega)]
          have hRP : RepC J4 (16 + 13 * nx) R := P1.row (fun a u w => hfx a (by omega))
          refine q_iload_n hG rfl rfl ?_
          refine q_if_lt hG rfl ⟨by omega, by omega⟩ (fun _ => ?_) (fun q => absurd (by decide) q)
          refine q_iload_n hG rfl rfl ?_
          refine q_if_ge hG rfl ⟨by omega, by omega⟩ (fun q => absurd q (by decide)) (fun _ => ?_)
          refine q_aload_n hG rfl rfl ?_
          refine q_getR hG rfl (by assumption) (by assumption) ?_
          refine q_aload_n hG rfl rfl ?_
          refine q_getR hG rfl (by assumption) (by assumption) ?_
          refine q_callV6 hG rfl rfl rfl (by assumption) (s_H_backP hX0 (I := J4) hHJ hRP hn1 (fun J5 b1 b2 => ?_))
          refine q_iload_n hG rfl rfl ?_
          refine q_bipush (v := -2) hG rfl rfl ?_
          refine q_icmp_ne hG rfl ⟨by omega, by omega⟩ ⟨by omega, by omega⟩ (fun _ => ?_) (fun q => absurd (by decide) q)
          refine q_iload_n hG rfl rfl ?_
          refine q_iconst (v := -1) hG rfl rfl ?_
          refine q_icmp_ne hG rfl ⟨by omega, by omega⟩ ⟨by omega, by omega⟩ (fun q => absurd q (by decide)) (fun _ => ?_)
          refine q_aload_n hG rfl rfl ?_
          refine q_aload_n hG rfl rfl ?_
          refine q_getI0v (v := r) hG rfl (by assumption) (by rw [b2 0 (by omega), o.1]; rfl) ?_
          refine q_putI0 hG rfl (by assumption) ?_
          refine q_aload_n hG rfl rfl ?_
          refine q_bipush (v := 6) hG rfl rfl ?_
          refine q_iload_n hG rfl rfl ?_
          refine q_callV6 hG rfl rfl rfl (by assumption) (s_X_reject hX0 ?_)
          refine q_pop hG rfl rfl ?_
          refine q_throw hG rfl ?_
          have nz : ∀ a, a ≠ 0 → st (st (st J5 0 13 r) 0 11 6) 0 12 (k : Int) a = J5 a := fun a ha => by rw [st_row _ _ ha, st_row _ _ ha, st_row _ _ ha]
          refine pR N k r e0 hS (by omega) ⟨R', hseq, e⟩ _ (hC0.of (b1.row (fun a u w => nz a (by omega))) ⟨nx, ?_⟩ (fun a ha => ?_) ?_ ?_ ?_ ?_ ?_) ?_ (fun a ha => ?_)
          · exact hHJ.row (fun a u w => by rw [nz a (by omega), b2 a (by omega)])
          · rw [nz a (by omega), b2 a (by omega), hfx a (by omega), P2 a (by omega) (by omega)]
          · rw [st_ne _ _ (by omega), st_ne _ _ (by omega), st_ne _ _ (by omega), b2 0 (by omega), o.1]
            show J 0 3 = I 0 3
            rw [hf0, P2 0 (by omega) (by omega)]
          · rw [st_ne _ _ (by omega), st_ne _ _ (by omega), st_ne _ _ (by omega), b2 0 (by omega), o.1]
            show J 0 10 = eo
            rw [hf0, P2 0 (by omega) (by omega)]; exact e5
          · rw [st_ne _ _ (by omega), st_same]
          · rw [st_same]
          · rw [st_ne _ _ (by omega), st_ne _ _ (by omega), st_same]
          · exact P3.row (by rw [nz 161 (by omega), b2 161 (by omega), hfx 161 (by omega)]) (by rw [nz v (by omega), b2 v (by omega), hfx v (by omega)])
          · rw [nz a (by omega), b2 a (by omega), hfx a (by omega), P6 a ha]
        · refine q_istore_n hG rfl rfl ?_
          refine q_iload hG rfl rfl ?_
          refine q_istore_n hG rfl rfl ?_
          refine q_iinc (c := 1) hG rfl rfl rfl rfl ?_
          refine q_goto hG rfl ?_
          obtain ⟨P1, P2, P3, P4, P5, P6⟩ := hP
          have hf0 : J 0 = J3 0 := hfr 0 (by omega)
          obtain ⟨J4, hJ4⟩ : ∃ J4, J4 = J := ⟨_, rfl⟩
          rw [← hJ4]
          have hfx : ∀ a, (a = 0 ∨ 14 ≤ a ∧ a ≤ 145 ∨ 150 ≤ a) → J4 a = J3 a := fun a ha => by rw [hJ4]; exact hfr a (by omega)
          have hHJ : HistC J4 c nx h := by
            obtain ⟨g1, g2, g3, g4, g5⟩ := hH
            refine ⟨by rw [hfx 14 (by omega), P2 14 (by omega) (by omega)]; exact g1, g2, by rw [hfx 14 (by omega), P2 14 (by omega) (by omega)]; exact g3, g4, fun j hj => (g5 j hj).row (fun a u w => ?_)⟩
            rw [hfx a (by omega), P2 a (by omega) (by omega)]
          have hRP : RepC J4 (16 + 13 * nx) R := P1.row (fun a u w => hfx a (by omega))
          refine q_iload_n hG rfl rfl ?_
          refine q_if_lt hG rfl ⟨by omega, by omega⟩ (fun _ => ?_) (fun q => absurd (by decide) q)
          refine q_iload_n hG rfl rfl ?_
          refine q_if_ge hG rfl ⟨by omega, by omega⟩ (fun q => absurd q (by decide)) (fun _ => ?_)
          refine q_aload_n hG rfl rfl ?_
          refine q_getR hG rfl (by assumption) (by assumption) ?_
          refine q_aload_n hG rfl rfl ?_
          refine q_getR hG rfl (by assumption) (by assumption) ?_
          refine q_callV6 hG rfl rfl rfl (by assumption) (s_H_backP hX0 (I := J4) hHJ hRP hn1 (fun J5 b1 b2 => ?_))
          refine q_iload_n hG rfl rfl ?_
          refine q_bipush (v := -2) hG rfl rfl ?_
          refine q_icmp_ne hG rfl ⟨by omega, by omega⟩ ⟨by omega, by omega⟩ (fun q => absurd q (by decide)) (fun _ => ?_)
          refine q_throw hG rfl ?_
          refine pF N k hS (by omega) ⟨R', hseq, e⟩ J5 (hC0.of b1 ⟨nx, ?_⟩ (fun a ha => ?_) ?_ ?_ ?_ ?_ ?_) ?_ (fun a ha => ?_)
          · exact hHJ.row (fun a u w => b2 a (by omega))
          · rw [b2 a (by omega), hfx a (by omega), P2 a (by omega) (by omega)]
          · rw [b2 0 (by omega), hfx 0 (by omega), P2 0 (by omega) (by omega)]
          · rw [b2 0 (by omega), hfx 0 (by omega), P2 0 (by omega) (by omega)]; exact e5
          · rw [b2 0 (by omega), hfx 0 (by omega), P2 0 (by omega) (by omega)]; exact e6
          · rw [b2 0 (by omega), hfx 0 (by omega), P2 0 (by omega) (by omega)]; exact e7
          · rw [b2 0 (by omega), hfx 0 (by omega), P2 0 (by omega) (by omega)]; exact e8
          · exact P3.row (by rw [b2 161 (by omega), hfx 161 (by omega)]) (by rw [b2 v (by omega), hfx v (by omega)])
          · rw [b2 a (by omega), hfx a (by omega), P6 a ha]
  show G 0 [some (.ref 0), none, none, none, none] [] (wI B I)
  refine q_aload_n hG rfl rfl ?_
  refine q_getR hG rfl (by assumption) (by assumption) ?_
  refine q_callV6 hG rfl rfl rfl (by assumption) (s_T_read hX0 ⟨T1, T2, T3, by omega, hl60⟩ hkf (fun N hS hN J1 jc jm fA => ?_) (fun e he he60 J1 je fA => ?_))
  · have t2 : sbT J1 161 v l := T2.row (fA.1 161 (by omega) (by omega) (by omega) (by omega)) (fA.1 v (by omega) (by omega) (by omega) (by omega))
    refine q_istore_n hG rfl rfl ?_
    refine q_aload_n hG rfl rfl ?_
    refine q_getR hG rfl (by assumption) (by assumption) ?_
    refine q_getR hG rfl (by assumption) (by assumption) ?_
    refine q_iconst (v := 0) hG rfl rfl ?_
    refine q_callV6 hG rfl rfl rfl (by assumption) (s_J_set T1 t2 T3 (fun J2 s2 s3 => ?_))
    have hC2 : CSt J2 R c h sv SR eo why det cau := hC0.of (hR.row (fun a u w => by rw [s3 a (by omega), fA.1 a (by omega) (by omega) (by omega) (by omega)])) ⟨nx, hH.row (fun a u w => by rw [s3 a (by omega), fA.1 a (by omega) (by omega) (by omega) (by omega)])⟩ (fun a ha => by rw [s3 a (by omega), fA.1 a (by omega) (by omega) (by omega) (by omega)]) (by rw [s3 0 (by omega), fA.1 0 (by omega) (by omega) (by omega) (by omega)]) (by rw [s3 0 (by omega), fA.1 0 (by omega) (by omega) (by omega) (by omega)]; exact e5) (by rw [s3 0 (by omega), fA.1 0 (by omega) (by omega) (by omega) (by omega)]; exact e6) (by rw [s3 0 (by omega), fA.1 0 (by omega) (by omega) (by omega) (by omega)]; exact e7) (by rw [s3 0 (by omega), fA.1 0 (by omega) (by omega) (by omega) (by omega)]; exact e8)
    have hH2 : HistC J2 c nx h := hH.row (fun a u w => by rw [s3 a (by omega), fA.1 a (by omega) (by omega) (by omega) (by omega)])
    have hR2 : RepC J2 1 R := hC2.1
    refine q_iload_n hG rfl rfl ?_
    refine q_if_ne hG rfl ⟨by omega, by omega⟩ (fun _ => ?_) (fun q => absurd (by decide) q)
    refine q_aload_n hG rfl rfl ?_
    refine q_getR hG rfl (by assumption) (by assumption) ?_
    refine q_aload_n hG rfl rfl ?_
    refine q_getR hG rfl (by assumption) (by assumption) ?_
    refine q_callV6 hG rfl rfl rfl (by assumption) (s_H_prepare hX0 hH2 hR2 hn1 (fun J3 q1 q2 => ?_))
    have hJ3 : ∀ a, a ≤ 159 → (a < 16 + 13 * nx ∨ 16 + 13 * nx + 12 < a) → J3 a = I a := fun a ha hb => by rw [q2 a hb, s3 a (by omega), fA.1 a (by omega) (by omega) (by omega) (by omega)]
    refine q_iconst (v := 0) hG rfl rfl ?_
    refine q_istore_n hG rfl rfl ?_
    refine q_iconst (v := -1) hG rfl rfl ?_
    refine q_istore_n hG rfl rfl ?_
    refine q_iconst (v := 0) hG rfl rfl ?_
    refine q_istore hG rfl rfl ?_
    refine lp _ 0 N J3 J3 R 0 (-1) rfl hS ⟨q1, fun a ha hb => ?_, ?_, ?_, fun j hj => ?_, fun a ha => ?_⟩ (by omega) hN rfl (hW.up (by omega)) (hR.row (fun a u w => hJ3 a (by omega) (by omega))) (fun a _ => rfl) ⟨by omega, by omega⟩
    · exact hJ3 a ha hb
    · exact s2.row (q2 161 (by omega)) (q2 v (by omega))
    · rw [q2 160 (by omega), s3 160 (by omega)]; exact jc
    · have g := jm j hj
      exact ⟨by rw [q2 163 (by omega), s3 163 (by omega)]; exact g.1, fun y hy => by rw [q2 _ (by omega), s3 _ (by omega)]; exact g.2.1 y hy, fun y => by rw [q2 164 (by omega), s3 164 (by omega)]; exact g.2.2 y⟩
    · rw [q2 a (by omega), s3 a (by omega), fA.1 a (by omega) (by omega) (by omega) (by omega)]
  · have t2 : sbT J1 161 v l := T2.row (fA.1 161 (by omega) (by omega) (by omega) (by omega)) (fA.1 v (by omega) (by omega) (by omega) (by omega))
    refine q_istore_n hG rfl rfl ?_
    refine q_aload_n hG rfl rfl ?_
    refine q_getR hG rfl (by assumption) (by assumption) ?_
    refine q_getR hG rfl (by assumption) (by assumption) ?_
    refine q_iconst (v := 0) hG rfl rfl ?_
    refine q_callV6 hG rfl rfl rfl (by assumption) (s_J_set T1 t2 T3 (fun J2 s2 s3 => ?_))
    have hC2 : CSt J2 R c h sv SR eo why det cau := hC0.of (hR.row (fun a u w => by rw [s3 a (by omega), fA.1 a (by omega) (by omega) (by omega) (by omega)])) ⟨nx, hH.row (fun a u w => by rw [s3 a (by omega), fA.1 a (by omega) (by omega) (by omega) (by omega)])⟩ (fun a ha => by rw [s3 a (by omega), fA.1 a (by omega) (by omega) (by omega) (by omega)]) (by rw [s3 0 (by omega), fA.1 0 (by omega) (by omega) (by omega) (by omega)]) (by rw [s3 0 (by omega), fA.1 0 (by omega) (by omega) (by omega) (by omega)]; exact e5) (by rw [s3 0 (by omega), fA.1 0 (by omega) (by omega) (by omega) (by omega)]; exact e6) (by rw [s3 0 (by omega), fA.1 0 (by omega) (by omega) (by omega) (by omega)]; exact e7) (by rw [s3 0 (by omega), fA.1 0 (by omega) (by omega) (by omega) (by omega)]; exact e8)
    have hH2 : HistC J2 c nx h := hH.row (fun a u w => by rw [s3 a (by omega), fA.1 a (by omega) (by omega) (by omega) (by omega)])
    have hR2 : RepC J2 1 R := hC2.1
    refine q_iload_n hG rfl rfl ?_
    refine q_if_ne hG rfl ⟨by omega, by omega⟩ (fun q => absurd q (by decide)) (fun _ => ?_)
    refine q_aload_n hG rfl rfl ?_
    refine q_aload_n hG rfl rfl ?_
    refine q_getR hG rfl (by assumption) (by assumption) ?_
    refine q_getI0v (v := (e : Int)) hG rfl (by assumption) (by rw [s3 160 (by omega)]; exact je) ?_
    refine q_putI0 hG rfl (by assumption) ?_
    refine q_throw hG rfl ?_
    refine pS e he _ (hC2.of (hR2.row (fun a u w => st_row _ _ (by omega))) ⟨nx, hH2.row (fun a u w => st_row _ _ (by omega))⟩ (fun a ha => st_row _ _ (by omega)) (st_ne _ _ (by omega)) (st_same _ _ _ _) ?_ ?_ ?_) (s2.row (st_row _ _ (by omega)) (st_row _ _ (by omega))) (fun a ha => by rw [st_row _ _ (by omega), s3 a (by omega), fA.1 a (by omega) (by omega) (by omega) (by omega)])
    · rw [st_ne _ _ (by omega)]; exact hC2.2.2.2.2.2.1
    · rw [st_ne _ _ (by omega)]; exact hC2.2.2.2.2.2.2.1
    · rw [st_ne _ _ (by omega)]; exact hC2.2.2.2.2.2.2.2.1
