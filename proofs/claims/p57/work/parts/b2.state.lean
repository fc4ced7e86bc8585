/-! the state that a turn's questions leave as it is, and the questions -/
def KC (B : HP) (I : IM) : Prop := kC B I ∧ kS B I 0 [46, 46] ∧ kS B I 1 [91] ∧ kS B I 2 [] ∧ kS B I 3 [46, 46] ∧ kS B I 4 [93] ∧ kS B I 5 [42] ∧ kS B I 6 [58] ∧ kS B I 7 [43]
theorem KC.mv {B B' : HP} {I J : IM} (h : KC B I) (hk : ∀ a, BIG ≤ a → hK B' a = hK B a) (hh : ∀ a i, BIG ≤ a → hR B' a i = hR B a i) (hr : ∀ a, BIG ≤ a → J a = I a) : KC B' J := by
  obtain ⟨a, b, c, d, e, f, g, k, l⟩ := h
  exact ⟨a.mv hk hr, b.mv hk hh hr, c.mv hk hh hr, d.mv hk hh hr, e.mv hk hh hr, f.mv hk hh hr, g.mv hk hh hr, k.mv hk hh hr, l.mv hk hh hr⟩
def TI (M L D : Nat) (R : RW) (B : HP) (I : IM) : Prop := LX B ∧ hK B (BIG + 20) = (9, L) ∧ (178 ≤ hn B ∧ hn B ≤ M ∧ M ≤ 5000) ∧ hw B ≤ 70 * hn B ∧ KC B I ∧ (∃ (c : Int) (h : Nat → RW) (sv : Int) (SR : RW) (eo why det cau : Int), CSt I R c h sv SR eo why det cau) ∧ (∃ o : List Int, sbT I 158 159 o ∧ o.length ≤ 16) ∧ WfR (20000 * (M : Int)) R ∧ AscR R ∧ (D : Int) ≤ R 0
section
variable {M L D : Nat} {R : RW} {B : HP} {I : IM}
theorem TI.lx (t : TI M L D R B I) : LX B := t.1
theorem TI.sc (t : TI M L D R B I) : hK B (BIG + 20) = (9, L) := t.2.1
theorem TI.nn (t : TI M L D R B I) : 178 ≤ hn B ∧ hn B ≤ M ∧ M ≤ 5000 := t.2.2.1
theorem TI.wf (t : TI M L D R B I) : WfR (20000 * (M : Int)) R := t.2.2.2.2.2.2.2.1
theorem TI.asc (t : TI M L D R B I) : AscR R := t.2.2.2.2.2.2.2.2.1
theorem TI.dd (t : TI M L D R B I) : (D : Int) ≤ R 0 := t.2.2.2.2.2.2.2.2.2
theorem TI.kc (t : TI M L D R B I) : KC B I := t.2.2.2.2.1
theorem TI.q (t : TI M L D R B I) : 20000 * (M : Int) ≤ 2000000000 := by have := t.nn; omega
theorem TI.b0 (t : TI M L D R B I) : 0 ≤ R 0 ∧ R 0 ≤ 6 := t.wf.1
theorem TI.b1 (t : TI M L D R B I) : 0 ≤ R 1 ∧ R 1 ≤ 10 := t.wf.2.1
theorem TI.rp (t : TI M L D R B I) : RepC I 1 R := by obtain ⟨c, h, sv, SR, eo, why, det, cau, hC⟩ := t.2.2.2.2.2.1; exact hC.1
theorem TI.z2 (t : TI M L D R B I) : ∀ k, k < 10 → I 152 k = 0 := by obtain ⟨c, h, sv, SR, eo, why, det, cau, hC⟩ := t.2.2.2.2.2.1; exact fun k hk => (hC.2.2.2.2.2.2.2.2 k hk).1
theorem TI.z7 (t : TI M L D R B I) : ∀ k, k < 10 → I 157 k = 0 := by obtain ⟨c, h, sv, SR, eo, why, det, cau, hC⟩ := t.2.2.2.2.2.1; exact fun k hk => (hC.2.2.2.2.2.2.2.2 k hk).2
theorem TI.big (t : TI M L D R B I) : hn B + 100 < BIG := by have := t.nn; have e : BIG = 1000000000 := rfl; omega
theorem TI.id (t : TI M L D R B I) {q : Nat} (hq : (q : Int) < R 1) : 0 ≤ R (29 + 5 * q) ∧ R (29 + 5 * q) < 100000000 := by
  have h := (t.wf.2.2.2.2.2.2 q hq).1
  have h2 := t.wf.2.2.1
  have h3 := t.nn
  omega
theorem TI.con (t : TI M L D R B I) {q : Nat} (hq : (q : Int) < R 1) : (R (29 + 5 * q + 1) = 60 ∨ R (29 + 5 * q + 1) = 61 ∨ R (29 + 5 * q + 1) = 35) ∧ (0 ≤ R (29 + 5 * q + 2) ∧ R (29 + 5 * q + 2) < R 0) ∧ (0 ≤ R (29 + 5 * q + 3) ∧ R (29 + 5 * q + 3) < R 0) ∧ (0 ≤ R (29 + 5 * q + 4) ∧ R (29 + 5 * q + 4) ≤ 20) := by
  obtain ⟨-, h1, h2, h3, -, h4, -⟩ := t.wf.2.2.2.2.2.2 q hq
  exact ⟨h1, h2, h3, h4⟩
theorem TI.door (t : TI M L D R B I) {k : Nat} (hk : (k : Int) < R 0) : 0 ≤ R (5 + 4 * k) ∧ R (5 + 4 * k) ≤ R (5 + 4 * k + 2) ∧ R (5 + 4 * k + 2) ≤ R (5 + 4 * k + 3) ∧ R (5 + 4 * k + 3) ≤ R (5 + 4 * k + 1) ∧ R (5 + 4 * k + 1) ≤ 40 := (t.wf.2.2.2.2.2.1 k (by have := t.b0; omega)).1
theorem TI.up (t : TI M L D R B I) {M' : Nat} (h : M ≤ M' ∧ M' ≤ 5000) : TI M' L D R B I := by
  obtain ⟨a, b, c, d, e, f, g, i, j, k⟩ := t
  exact ⟨a, b, ⟨c.1, by omega, h.2⟩, d, e, f, g, i.up (by omega), j, k⟩
theorem TI.gr (t : TI M L D R B I) {C : HP} {J : IM} (g : gr B I C J) {M' : Nat} (h : M ≤ M' ∧ hn C ≤ M' ∧ M' ≤ 5000) : TI M' L D R C J := by
  obtain ⟨a, b, c, d, e, ⟨c1, h1, sv, SR, eo, why, det, cau, hC⟩, ⟨o, o1, o2⟩, i, j, k⟩ := t
  obtain ⟨g1, g2, g3⟩ := g
  have hb : BIG = 1000000000 := rfl
  refine ⟨a.cg (fun b hb => ⟨(g1 b (Or.inl (by omega))).1, fun i _ => (g1 b (Or.inl (by omega))).2.1 i⟩), ((g1 _ (Or.inr (by omega))).1).trans b, ⟨by omega, h.2.1, h.2.2⟩, by omega, e.mv (fun a ha => (g1 a (Or.inr ha)).1) (fun a i ha => (g1 a (Or.inr ha)).2.1 i) (fun a ha => (g1 a (Or.inr ha)).2.2), ⟨c1, h1, sv, SR, eo, why, det, cau, hC.row (fun a ha => (g1 a (Or.inl (by omega))).2.2)⟩, ⟨o, o1.row (g1 158 (Or.inl (by omega))).2.2 (g1 159 (Or.inl (by omega))).2.2, o2⟩, i.up (by omega), j, k⟩
theorem TI.junk (t : TI M L D R B I) (h : M + 1 ≤ 5000) : TI (M + 1) L D R (junk B 6) I := t.gr (gr.refl B I).junk ⟨Nat.le_succ _, by show hn B + 1 ≤ M + 1; have := t.nn; omega, h⟩
theorem TI.tr (t : TI M L D R B I) {J : IM} (f : trf I J) : TI M L D R B J := by
  obtain ⟨a, b, c, d, e, ⟨c1, h1, sv, SR, eo, why, det, cau, hC⟩, ⟨o, o1, o2⟩, i, j, k⟩ := t
  have hb : BIG = 1000000000 := rfl
  exact ⟨a, b, c, d, e.mv (fun _ _ => rfl) (fun _ _ _ => rfl) (fun a ha => f a (by omega)), ⟨c1, h1, sv, SR, eo, why, det, cau, hC.row (fun a ha => f a (by omega))⟩, ⟨o, o1.row (f 158 (by omega)) (f 159 (by omega)), o2⟩, i, j, k⟩
theorem TI.tr2 (t : TI M L D R B I) {J : IM} (f : ∀ a, (a ≤ 145 ∨ 150 ≤ a) → J a = I a) : TI M L D R B J := t.tr (fun a ha => f a (by omega))
theorem TI.out (t : TI M L D R B I) {J : IM} {o' : List Int} (ho : sbT J 158 159 o') (hl : o'.length ≤ 16) (f : ∀ a, a ≠ 158 → a ≠ 159 → J a = I a) : TI M L D R B J := by
  obtain ⟨a, b, c, d, e, ⟨c1, h1, sv, SR, eo, why, det, cau, hC⟩, -, i, j, k⟩ := t
  have hb : BIG = 1000000000 := rfl
  exact ⟨a, b, c, d, e.mv (fun _ _ => rfl) (fun _ _ _ => rfl) (fun a ha => f a (by omega) (by omega)), ⟨c1, h1, sv, SR, eo, why, det, cau, hC.row (fun a ha => f a (by omega) (by omega))⟩, ⟨o', ho, hl⟩, i, j, k⟩
theorem TI.chg (t : TI M L D R B I) {J : IM} {R2 : RW} {c : Int} {h : Nat → RW} {sv : Int} {SR : RW} {eo why det cau : Int} {D' M' : Nat} (hC : CSt J R2 c h sv SR eo why det cau) (f : ∀ a, 158 ≤ a → J a = I a) (hM : M ≤ M' ∧ M' ≤ 5000) (hW : WfR (20000 * (M' : Int)) R2) (hA : AscR R2) (hD : (D' : Int) ≤ R2 0) : TI M' L D' R2 B J := by
  obtain ⟨a, b, c, d, e, -, ⟨o, o1, o2⟩, i, j, k⟩ := t
  have hb : BIG = 1000000000 := rfl
  exact ⟨a, b, ⟨c.1, by omega, hM.2⟩, d, e.mv (fun _ _ => rfl) (fun _ _ _ => rfl) (fun a ha => f a (by omega)), ⟨_, _, _, _, _, _, _, _, hC⟩, ⟨o, o1.row (f 158 (by omega)) (f 159 (by omega)), o2⟩, hW, hA, hD⟩
theorem TI.cs (t : TI M L D R B I) : ∃ (c : Int) (h : Nat → RW) (sv : Int) (SR : RW) (eo why det cau : Int), CSt I R c h sv SR eo why det cau := t.2.2.2.2.2.1
theorem TI.ou (t : TI M L D R B I) : ∃ o : List Int, sbT I 158 159 o ∧ o.length ≤ 16 := t.2.2.2.2.2.2.1
end
/-! the questions -/
theorem t_doors {d M L D : Nat} {R : RW} {B : HP} {I : IM} {Post : Out → HP → Prop} (t : TI M L D R B I)  (hp : Post (.inl (some (.int (i3 (R 0))))) (wI B I)) : Sp (d + 1) k_X8_doorCount [.ref 0] (wI B I) Post := by
  have b0 := t.b0
  have b1 := t.b1
  exact s_X_doorCount t.lx t.rp t.wf t.q hp
theorem t_cons {d M L D : Nat} {R : RW} {B : HP} {I : IM} {Post : Out → HP → Prop} (t : TI M L D R B I)  (hp : Post (.inl (some (.int (i3 (R 1))))) (wI B I)) : Sp (d + 1) k_X8_constraintCount [.ref 0] (wI B I) Post := by
  have b0 := t.b0
  have b1 := t.b1
  exact s_X_constraintCount t.lx t.rp t.wf t.q hp
theorem t_low {d M L D : Nat} {R : RW} {B : HP} {I : IM} {Post : Out → HP → Prop} (t : TI M L D R B I) {x : Nat} (hx : (x : Int) < R 0) (hp : Post (.inl (some (.int (i3 (R (5 + 4 * x + 2)))))) (wI B I)) : Sp (d + 3) k_X8_lowOf [.ref 0, .int (i3 ((x : Int)))] (wI B I) Post := by
  have b0 := t.b0
  have b1 := t.b1
  exact s_X_lowOf t.lx t.rp t.wf t.q (x := (x : Int)) ⟨by omega, by omega⟩ (fun e => absurd ⟨by omega, hx⟩ e) (fun _ => hp)
theorem t_high {d M L D : Nat} {R : RW} {B : HP} {I : IM} {Post : Out → HP → Prop} (t : TI M L D R B I) {x : Nat} (hx : (x : Int) < R 0) (hp : Post (.inl (some (.int (i3 (R (5 + 4 * x + 3)))))) (wI B I)) : Sp (d + 3) k_X8_highOf [.ref 0, .int (i3 ((x : Int)))] (wI B I) Post := by
  have b0 := t.b0
  have b1 := t.b1
  exact s_X_highOf t.lx t.rp t.wf t.q (x := (x : Int)) ⟨by omega, by omega⟩ (fun e => absurd ⟨by omega, hx⟩ e) (fun _ => hp)
theorem t_fLow {d M L D : Nat} {R : RW} {B : HP} {I : IM} {Post : Out → HP → Prop} (t : TI M L D R B I) {x : Nat} (hx : (x : Int) < R 0) (hp : Post (.inl (some (.int (i3 (R (5 + 4 * x)))))) (wI B I)) : Sp (d + 3) k_X8_frameLow [.ref 0, .int (i3 ((x : Int)))] (wI B I) Post := by
  have b0 := t.b0
  have b1 := t.b1
  exact s_X_frameLow t.lx t.rp t.wf t.q (x := (x : Int)) ⟨by omega, by omega⟩ (fun e => absurd ⟨by omega, hx⟩ e) (fun _ => hp)
theorem t_fHigh {d M L D : Nat} {R : RW} {B : HP} {I : IM} {Post : Out → HP → Prop} (t : TI M L D R B I) {x : Nat} (hx : (x : Int) < R 0) (hp : Post (.inl (some (.int (i3 (R (5 + 4 * x + 1)))))) (wI B I)) : Sp (d + 3) k_X8_frameHigh [.ref 0, .int (i3 ((x : Int)))] (wI B I) Post := by
  have b0 := t.b0
  have b1 := t.b1
  exact s_X_frameHigh t.lx t.rp t.wf t.q (x := (x : Int)) ⟨by omega, by omega⟩ (fun e => absurd ⟨by omega, hx⟩ e) (fun _ => hp)
theorem t_width {d M L D : Nat} {R : RW} {B : HP} {I : IM} {Post : Out → HP → Prop} (t : TI M L D R B I) {x : Nat} (hx : (x : Int) < R 0) (hp : Post (.inl (some (.int (i3 (wdR R x))))) (wI B I)) : Sp (d + 3) k_X8_widthOf [.ref 0, .int (i3 ((x : Int)))] (wI B I) Post := by
  have b0 := t.b0
  have b1 := t.b1
  exact s_X_widthOf t.lx t.rp t.wf t.q (x := (x : Int)) ⟨by omega, by omega⟩ (fun e => absurd ⟨by omega, hx⟩ e) (fun _ => hp)
theorem t_conOf {d M L D : Nat} {R : RW} {B : HP} {I : IM} {Post : Out → HP → Prop} (t : TI M L D R B I) {x : Nat} (hx : (x : Int) < R 0) (hp : Post (.inl (some (.int (i3 (tkR R (x : Int)))))) (wI B I)) : Sp (d + 3) k_X8_constraintsOf [.ref 0, .int (i3 ((x : Int)))] (wI B I) Post := by
  have b0 := t.b0
  have b1 := t.b1
  exact s_X_constraintsOf t.lx t.rp t.wf t.q (x := (x : Int)) ⟨by omega, by omega⟩ (fun e => absurd ⟨by omega, hx⟩ e) (fun _ => hp)
theorem t_fixed {d M L D : Nat} {R : RW} {B : HP} {I : IM} {Post : Out → HP → Prop} (t : TI M L D R B I) {x : Nat} (hx : (x : Int) < R 0) (p1 : R (5 + 4 * x + 2) = R (5 + 4 * x + 3) → Post (.inl (some (.int (i3 (1))))) (wI B I)) (p0 : ¬ R (5 + 4 * x + 2) = R (5 + 4 * x + 3) → Post (.inl (some (.int (i3 (0))))) (wI B I)) : Sp (d + 3) k_X8_isFixed [.ref 0, .int (i3 ((x : Int)))] (wI B I) Post := by
  have b0 := t.b0
  have b1 := t.b1
  exact s_X_isFixed t.lx t.rp t.wf t.q (x := (x : Int)) ⟨by omega, by omega⟩ (fun e => absurd ⟨by omega, hx⟩ e) (fun _ e => p1 e) (fun _ e => p0 e)
theorem t_conAt {d M L D : Nat} {R : RW} {B : HP} {I : IM} {Post : Out → HP → Prop} (t : TI M L D R B I) {q : Nat} (hq : (q : Int) < R 1) (hp : Post (.inl (some (.int (i3 (R (29 + 5 * q)))))) (wI B I)) : Sp (d + 1) k_X8_constraintAt [.ref 0, .int (i3 ((q : Int)))] (wI B I) Post := by
  have b0 := t.b0
  have b1 := t.b1
  exact s_X_constraintAt t.lx t.rp t.wf t.q (x := (q : Int)) ⟨by omega, by omega⟩ (fun e => absurd ⟨by omega, hq⟩ e) (fun _ => hp)
theorem t_kind {d M L D : Nat} {R : RW} {B : HP} {I : IM} {Post : Out → HP → Prop} (t : TI M L D R B I) {q : Nat} (hq : (q : Int) < R 1) (hp : Post (.inl (some (.int (i3 (R (29 + 5 * q + 1)))))) (wI B I)) : Sp (d + 3) k_X8_kindOf [.ref 0, .int (i3 (R (29 + 5 * q)))] (wI B I) Post := by
  have b0 := t.b0
  have b1 := t.b1
  have hi := t.id hq
  exact s_X_kindOf t.lx t.rp t.wf t.q ⟨by omega, by omega⟩ (fun e => (asc_no hq e).elim) (fun p hf => by obtain rfl := asc_fd t.asc hq hf; exact hp)
theorem t_first {d M L D : Nat} {R : RW} {B : HP} {I : IM} {Post : Out → HP → Prop} (t : TI M L D R B I) {q : Nat} (hq : (q : Int) < R 1) (hp : Post (.inl (some (.int (i3 (R (29 + 5 * q + 2)))))) (wI B I)) : Sp (d + 3) k_X8_firstOf [.ref 0, .int (i3 (R (29 + 5 * q)))] (wI B I) Post := by
  have b0 := t.b0
  have b1 := t.b1
  have hi := t.id hq
  exact s_X_firstOf t.lx t.rp t.wf t.q ⟨by omega, by omega⟩ (fun e => (asc_no hq e).elim) (fun p hf => by obtain rfl := asc_fd t.asc hq hf; exact hp)
theorem t_second {d M L D : Nat} {R : RW} {B : HP} {I : IM} {Post : Out → HP → Prop} (t : TI M L D R B I) {q : Nat} (hq : (q : Int) < R 1) (hp : Post (.inl (some (.int (i3 (R (29 + 5 * q + 3)))))) (wI B I)) : Sp (d + 3) k_X8_secondOf [.ref 0, .int (i3 (R (29 + 5 * q)))] (wI B I) Post := by
  have b0 := t.b0
  have b1 := t.b1
  have hi := t.id hq
  exact s_X_secondOf t.lx t.rp t.wf t.q ⟨by omega, by omega⟩ (fun e => (asc_no hq e).elim) (fun p hf => by obtain rfl := asc_fd t.asc hq hf; exact hp)
theorem t_gap {d M L D : Nat} {R : RW} {B : HP} {I : IM} {Post : Out → HP → Prop} (t : TI M L D R B I) {q : Nat} (hq : (q : Int) < R 1) (hp : Post (.inl (some (.int (i3 (R (29 + 5 * q + 4)))))) (wI B I)) : Sp (d + 3) k_X8_gapOf [.ref 0, .int (i3 (R (29 + 5 * q)))] (wI B I) Post := by
  have b0 := t.b0
  have b1 := t.b1
  have hi := t.id hq
  exact s_X_gapOf t.lx t.rp t.wf t.q ⟨by omega, by omega⟩ (fun e => (asc_no hq e).elim) (fun p hf => by obtain rfl := asc_fd t.asc hq hf; exact hp)
theorem t_safe {d M L D : Nat} {R : RW} {B : HP} {I : IM} {Post : Out → HP → Prop} (t : TI M L D R B I) {q : Nat} (hq : (q : Int) < R 1) (p1 : alR R q → Post (.inl (some (.int (i3 (1))))) (wI B I)) (p0 : ¬ alR R q → Post (.inl (some (.int (i3 (0))))) (wI B I)) : Sp (d + 3) k_X8_isSafe [.ref 0, .int (i3 (R (29 + 5 * q)))] (wI B I) Post := by
  have b0 := t.b0
  have b1 := t.b1
  have hi := t.id hq
  exact s_X_isSafe t.lx t.rp t.wf t.q ⟨by omega, by omega⟩ (fun e => (asc_no hq e).elim) (fun p hf e => by obtain rfl := asc_fd t.asc hq hf; exact p1 e) (fun p hf e => by obtain rfl := asc_fd t.asc hq hf; exact p0 e)
theorem t_broken {d M L D : Nat} {R : RW} {B : HP} {I : IM} {Post : Out → HP → Prop} (t : TI M L D R B I) {q : Nat} (hq : (q : Int) < R 1) (p1 : nvR R q → Post (.inl (some (.int (i3 (1))))) (wI B I)) (p0 : ¬ nvR R q → Post (.inl (some (.int (i3 (0))))) (wI B I)) : Sp (d + 3) k_X8_isBroken [.ref 0, .int (i3 (R (29 + 5 * q)))] (wI B I) Post := by
  have b0 := t.b0
  have b1 := t.b1
  have hi := t.id hq
  exact s_X_isBroken t.lx t.rp t.wf t.q ⟨by omega, by omega⟩ (fun e => (asc_no hq e).elim) (fun p hf e => by obtain rfl := asc_fd t.asc hq hf; exact p1 e) (fun p hf e => by obtain rfl := asc_fd t.asc hq hf; exact p0 e)
theorem t_dbw {d M L D : Nat} {R : RW} {B : HP} {I : IM} {Post : Out → HP → Prop} (t : TI M L D R B I) {v : Nat} (hv : (v : Int) < R 0) (hp : ∀ p : Nat, (p : Int) < R 0 → dwR R p = (v : Int) → Post (.inl (some (.int (i3 ((p : Int)))))) (wI B I)) : Sp (d + 6) k_X8_doorByWidth [.ref 0, .int (i3 ((v : Int)))] (wI B I) Post := by
  have b0 := t.b0
  have b1 := t.b1
  exact s_X_doorByWidth t.lx t.rp t.wf t.q (x := (v : Int)) ⟨by omega, by omega⟩ (fun e => (dw_at R (by omega) e).elim) (fun p hf => hp p (by have := hf.1; omega) hf.2.1)
theorem t_cbg {d M L D : Nat} {R : RW} {B : HP} {I : IM} {Post : Out → HP → Prop} (t : TI M L D R B I) {v : Nat} (hv : (v : Int) < R 1) (hp : ∀ p : Nat, (p : Int) < R 1 → cgR R p = (v : Int) → Post (.inl (some (.int (i3 (R (29 + 5 * p)))))) (wI B I)) : Sp (d + 4) k_X8_constraintByGap [.ref 0, .int (i3 ((v : Int)))] (wI B I) Post := by
  have b0 := t.b0
  have b1 := t.b1
  exact s_X_constraintByGap t.lx t.rp t.wf t.q (x := (v : Int)) ⟨by omega, by omega⟩ (fun e => (cg_at R (by omega) e).elim) (fun p hf => hp p (by have := hf.1; omega) hf.2.1)
theorem t_hasPeace {d M L D : Nat} {R : RW} {B : HP} {I : IM} {Post : Out → HP → Prop} (t : TI M L D R B I)  (p1 : ∀ (J : IM) (b : Nat → Int), fpR R b → TI M L D R B J → Post (.inl (some (.int (i3 (1))))) (wI B J)) (p0 : ∀ J : IM, (∀ p, ¬ peS R (ptR R) p) → TI M L D R B J → Post (.inl (some (.int (i3 (0))))) (wI B J)) : Sp (d + 17) k_X8_hasPeace [.ref 0] (wI B I) Post := by
  have b0 := t.b0
  have b1 := t.b1
  exact s_X_hasPeace t.lx t.rp t.wf t.q t.z7 (fun J b h f => p1 J b h (t.tr f)) (fun J h f => p0 J h (t.tr f))
theorem t_peace {d M L D : Nat} {R : RW} {B : HP} {I : IM} {Post : Out → HP → Prop} (t : TI M L D R B I) {x : Nat} (hx : (x : Int) < R 0) {b : Nat → Int} (hb : fpR R b) (hp : ∀ J : IM, TI M L D R B J → Post (.inl (some (.int (i3 (b x))))) (wI B J)) : Sp (d + 17) k_X8_peaceHeight [.ref 0, .int (i3 ((x : Int)))] (wI B I) Post := by
  have b0 := t.b0
  have b1 := t.b1
  exact s_X_peaceHeight t.lx t.rp t.wf t.q (x := (x : Int)) ⟨by omega, by omega⟩ t.z7 (fun e => absurd ⟨by omega, hx⟩ e) (fun _ J b2 h f => by have e : b2 x = b x := fp_one h hb x (by omega); have z := hp J (t.tr f); rw [← e] at z; exact z) (fun _ J h _ => absurd hb.1 (h b))
theorem t_arePos {d M L D : Nat} {R : RW} {B : HP} {I : IM} {Post : Out → HP → Prop} (t : TI M L D R B I) {x y : Nat} {u v : Int} (hx : (x : Int) < R 0) (hy : (y : Int) < R 0) (hu : 0 ≤ u ∧ u ≤ 40) (hv : 0 ≤ v ∧ v ≤ 40) (p1 : posR R x u y v → ∀ J : IM, TI M L D R B J → Post (.inl (some (.int (i3 (1))))) (wI B J)) (p0 : ¬ posR R x u y v → ∀ J : IM, TI M L D R B J → Post (.inl (some (.int (i3 (0))))) (wI B J)) : Sp (d + 17) k_X8_arePossible [.ref 0, .int (i3 ((x : Int))), .int (i3 (u)), .int (i3 ((y : Int))), .int (i3 (v))] (wI B I) Post := by
  have b0 := t.b0
  have b1 := t.b1
  exact s_X_arePossible t.lx t.rp t.wf t.q (xa := (x : Int)) (ya := (y : Int)) ⟨by omega, by omega⟩ ⟨by omega, by omega⟩ ⟨by omega, by omega⟩ ⟨by omega, by omega⟩ t.z7 (fun e => absurd ⟨⟨by omega, hx⟩, ⟨by omega, hy⟩⟩ e) (fun _ e => absurd ⟨hu, hv⟩ e) (fun _ _ e J f => p1 e J (t.tr f)) (fun _ _ e J f => p0 e J (t.tr f))
/-- what wouldChange tells the law -/
noncomputable def wcR (R : RW) : Int := if (paR R 1).2 = none then (paR R 1).1.2.2 else -30000
theorem wc_bd {q : Int} {R : RW} (hW : WfR q R) : -30000 ≤ wcR R ∧ wcR R ≤ 1000 := by
  unfold wcR
  split
  · rename_i h; have := pa_bd hW h; omega
  · omega
/-- what the two lowest heights tell the law -/
noncomputable def lhR (R : RW) (x : Nat) : Int := if (stR2 R 0).1 = none then (stR2 R 0).2.1.1 x else -30000
theorem t_settled {d M L D : Nat} {R : RW} {B : HP} {I : IM} {Post : Out → HP → Prop} (t : TI M L D R B I)  (p1 : wcR R = 0 → ∀ J : IM, TI M L D R B J → Post (.inl (some (.int (i3 (1))))) (wI B J)) (p0 : ¬ wcR R = 0 → ∀ J : IM, TI M L D R B J → Post (.inl (some (.int (i3 (0))))) (wI B J)) : Sp (d + 5) k_X8_isSettled [.ref 0] (wI B I) Post := by
  have b0 := t.b0
  have b1 := t.b1
  exact s_X_isSettled t.lx t.rp t.wf t.q (fun e1 e2 J f => p1 (by unfold wcR; rw [if_pos e1]; exact e2) J (t.tr2 f)) (fun e J f => p0 (fun z => e (by unfold wcR at z; split at z; exact ⟨by assumption, z⟩; exact absurd z (by decide))) J (t.tr2 f))
theorem t_fixedCount {d M L D : Nat} {R : RW} {B : HP} {I : IM} {Post : Out → HP → Prop} (t : TI M L D R B I)  (hp : Post (.inl (some (.int (i3 (fxR R))))) (wI B I)) : Sp (d + 2) k_X8_fixedCount [.ref 0] (wI B I) Post := by
  have b0 := t.b0
  have b1 := t.b1
  exact s_X_fixedCount t.lx t.rp t.wf t.q hp
theorem t_totalWidth {d M L D : Nat} {R : RW} {B : HP} {I : IM} {Post : Out → HP → Prop} (t : TI M L D R B I)  (hp : Post (.inl (some (.int (i3 (twR R))))) (wI B I)) : Sp (d + 3) k_X8_totalWidth [.ref 0] (wI B I) Post := by
  have b0 := t.b0
  have b1 := t.b1
  exact s_X_totalWidth t.lx t.rp t.wf t.q hp
theorem t_totalFrame {d M L D : Nat} {R : RW} {B : HP} {I : IM} {Post : Out → HP → Prop} (t : TI M L D R B I)  (hp : Post (.inl (some (.int (i3 (tfR R))))) (wI B I)) : Sp (d + 3) k_X8_totalFrameWidth [.ref 0] (wI B I) Post := by
  have b0 := t.b0
  have b1 := t.b1
  exact s_X_totalFrameWidth t.lx t.rp t.wf t.q hp
theorem t_mean {d M L D : Nat} {R : RW} {B : HP} {I : IM} {Post : Out → HP → Prop} (t : TI M L D R B I) (h0 : 0 < R 0) (hp : Post (.inl (some (.double (mwV R)))) (wI B I)) : Sp (d + 4) k_X8_meanWidth [.ref 0] (wI B I) Post := by
  have b0 := t.b0
  have b1 := t.b1
  exact s_X_meanWidth t.lx t.rp t.wf t.q (fun _ => hp) (fun e => by omega)
theorem t_share {d M L D : Nat} {R : RW} {B : HP} {I : IM} {Post : Out → HP → Prop} (t : TI M L D R B I) (h0 : 0 < R 0) (hp : Post (.inl (some (.float (fsV R)))) (wI B I)) : Sp (d + 4) k_X8_fixedShare [.ref 0] (wI B I) Post := by
  have b0 := t.b0
  have b1 := t.b1
  exact s_X_fixedShare t.lx t.rp t.wf t.q (fun _ => hp) (fun e => by omega)
theorem t_consistent {d M L D : Nat} {R : RW} {B : HP} {I : IM} {Post : Out → HP → Prop} (t : TI M L D R B I)  (hp : ∀ J : IM, TI M L D R B J → Post (.inl (some (.int (i3 (1))))) (wI B J)) : Sp (d + 6) k_X8_isConsistent [.ref 0] (wI B I) Post := by
  have b0 := t.b0
  have b1 := t.b1
  exact s_X_isConsistent t.lx t.rp t.wf t.q t.z2 (fun J f => hp J (t.tr f))
theorem t_writeDoor {d M L D : Nat} {R : RW} {B : HP} {I : IM} {Post : Out → HP → Prop} (t : TI M L D R B I) {x : Nat} (hx : (x : Int) < R 0) (hp : ∀ J : IM, TI M L D R B J → sbT J 158 159 (doT R x) → (doT R x).length ≤ 16 → Post (.inl (some (.int (i3 (((doT R x).length : Int)))))) (wI B J)) : Sp (d + 6) k_X8_writeDoor [.ref 0, .int (i3 ((x : Int)))] (wI B I) Post := by
  have b0 := t.b0
  have b1 := t.b1
  obtain ⟨o, o1, o2⟩ := t.ou
  have hl := doT_len t.wf (x := x) (by omega)
  exact s_X_writeDoor t.lx t.rp t.wf t.q (x := (x : Int)) ⟨by omega, by omega⟩ o1 o2 t.kc.1 t.kc.2.1 (fun e => absurd ⟨by omega, hx⟩ e) (fun _ J h f => hp J (t.out h hl f) h hl)
theorem t_writeCon {d M L D : Nat} {R : RW} {B : HP} {I : IM} {Post : Out → HP → Prop} (t : TI M L D R B I) {q : Nat} (hq : (q : Int) < R 1) (hp : ∀ J : IM, TI M L D R B J → sbT J 158 159 (ruT R q) → (ruT R q).length ≤ 16 → Post (.inl (some (.int (i3 (((ruT R q).length : Int)))))) (wI B J)) : Sp (d + 6) k_X8_writeConstraint [.ref 0, .int (i3 (R (29 + 5 * q)))] (wI B I) Post := by
  have b0 := t.b0
  have b1 := t.b1
  have hi := t.id hq
  obtain ⟨o, o1, o2⟩ := t.ou
  have hl := ruT_len t.wf (by have := t.nn; omega) hq
  exact s_X_writeConstraint t.lx t.rp t.wf t.q (by have := t.nn; omega) ⟨by omega, by omega⟩ o1 o2 t.kc.1 (fun e => (asc_no hq e).elim) (fun p hf J h f => by obtain rfl := asc_fd t.asc hq hf; exact hp J (t.out h hl f) h hl)
/-! the law's own small methods: what is thrown becomes a number -/
theorem s_L_would {d : Nat} {B : HP} {I : IM} {Post : Out → HP → Prop} {M L D : Nat} {R : RW} (t : TI M L D R B I) (hM : M + 1 ≤ 5000)  (hp : ∀ (C : HP) (J : IM), TI (M + 1) L D R C J → Post (.inl (some (.int (i3 (wcR R))))) (wI C J)) : Sp (d + 6) k_L_wouldChange [.ref 0] (wI B I) Post := by
  refine Sp_intro md_L_wouldChange rfl rfl (fun G hG => ?_)
  have b0 := t.b0
  have b1 := t.b1
  have hX9 := t.lx.1
  show G 0 [some (.ref 0), none] [] (wI B I)
  refine q_aload_n hG rfl rfl ?_
  refine q_callV6 hG rfl rfl rfl hX9 (s_X_wouldChange t.lx t.rp t.wf t.q (fun e J f => ?_) (fun p e J f => ?_))
  · refine q_iret0 hG rfl rfl ?_
    have z := hp B J ((t.tr2 f).up ⟨Nat.le_succ _, hM⟩)
    rw [show wcR R = (paR R 1).1.2.2 from if_pos e] at z
    exact z
  · refine q_astoreJ_n hG rfl rfl ?_
    refine q_sipush (v := -30000) hG rfl rfl ?_
    refine q_iret0 hG rfl rfl ?_
    have z := hp (junk B 6) J ((t.tr2 f).junk hM)
    rw [show wcR R = -30000 from if_neg (by rw [e]; exact fun q => by cases q)] at z
    exact z
theorem s_L_lowest {d : Nat} {B : HP} {I : IM} {Post : Out → HP → Prop} {M L D : Nat} {R : RW} (t : TI M L D R B I) (hM : M + 1 ≤ 5000) {x : Nat} (hx : (x : Int) < R 0) (hp : ∀ (C : HP) (J : IM), TI (M + 1) L D R C J → Post (.inl (some (.int (i3 (lhR R x))))) (wI C J)) : Sp (d + 7) k_L_lowestHeight [.ref 0, .int (i3 ((x : Int)))] (wI B I) Post := by
  refine Sp_intro md_L_lowestHeight rfl rfl (fun G hG => ?_)
  have b0 := t.b0
  have b1 := t.b1
  have hX9 := t.lx.1
  show G 0 [some (.ref 0), some (.int (i3 ((x : Int)))), none] [] (wI B I)
  refine q_aload_n hG rfl rfl ?_
  refine q_iload_n hG rfl rfl ?_
  refine q_callV6 hG rfl rfl rfl hX9 (s_X_lowestHeight t.lx t.rp t.wf t.q (x := (x : Int)) ⟨by omega, by omega⟩ (fun e => absurd ⟨by omega, hx⟩ e) (fun _ e J f => ?_) (fun _ e J f => ?_))
  · refine q_iret0 hG rfl rfl ?_
    have z := hp B J ((t.tr f).up ⟨Nat.le_succ _, hM⟩)
    rw [show lhR R x = (stR2 R 0).2.1.1 x from if_pos e] at z
    exact z
  · refine q_astoreJ_n hG rfl rfl ?_
    refine q_sipush (v := -30000) hG rfl rfl ?_
    refine q_iret0 hG rfl rfl ?_
    have z := hp (junk B 6) J ((t.tr f).junk hM)
    rw [show lhR R x = -30000 from if_neg e] at z
    exact z
theorem s_L_byPaths {d : Nat} {B : HP} {I : IM} {Post : Out → HP → Prop} {M L D : Nat} {R : RW} (t : TI M L D R B I) (hM : M + 1 ≤ 5000) {x : Nat} (hx : (x : Int) < R 0) (hp : ∀ (C : HP) (J : IM), TI (M + 1) L D R C J → Post (.inl (some (.int (i3 (lhR R x))))) (wI C J)) : Sp (d + 7) k_L_lowestHeightByPaths [.ref 0, .int (i3 ((x : Int)))] (wI B I) Post := by
  refine Sp_intro md_L_lowestHeightByPaths rfl rfl (fun G hG => ?_)
  have b0 := t.b0
  have b1 := t.b1
  have hX9 := t.lx.1
  show G 0 [some (.ref 0), some (.int (i3 ((x : Int)))), none] [] (wI B I)
  refine q_aload_n hG rfl rfl ?_
  refine q_iload_n hG rfl rfl ?_
  refine q_callV6 hG rfl rfl rfl hX9 (s_X_lowestByPaths t.lx t.rp t.wf t.q (x := (x : Int)) ⟨by omega, by omega⟩ t.z2 (fun e => absurd ⟨by omega, hx⟩ e) (fun _ e J f => ?_) (fun _ e J f => ?_))
  · refine q_iret0 hG rfl rfl ?_
    have z := hp B J ((t.tr f).up ⟨Nat.le_succ _, hM⟩)
    rw [show lhR R x = (stR2 R 0).2.1.1 x from if_pos e] at z
    exact z
  · refine q_astoreJ_n hG rfl rfl ?_
    refine q_sipush (v := -30000) hG rfl rfl ?_
    refine q_iret0 hG rfl rfl ?_
    have z := hp (junk B 6) J ((t.tr f).junk hM)
    rw [show lhR R x = -30000 from if_neg e] at z
    exact z
theorem s_L_noPeace {d : Nat} {B : HP} {I : IM} {Post : Out → HP → Prop} {M L D : Nat} {R : RW} (t : TI M L D R B I) (hM : M + 1 ≤ 5000) {x : Nat} (hx : (x : Int) < R 0) (h0 : ∀ p, ¬ peS R (ptR R) p) (hp : ∀ (C : HP) (J : IM), TI (M + 1) L D R C J → Post (.inl (some (.int (i3 (-30000))))) (wI C J)) : Sp (d + 18) k_L_peaceHeight [.ref 0, .int (i3 ((x : Int)))] (wI B I) Post := by
  refine Sp_intro md_L_peaceHeight rfl rfl (fun G hG => ?_)
  have b0 := t.b0
  have b1 := t.b1
  have hX9 := t.lx.1
  show G 0 [some (.ref 0), some (.int (i3 ((x : Int)))), none] [] (wI B I)
  refine q_aload_n hG rfl rfl ?_
  refine q_iload_n hG rfl rfl ?_
  refine q_callV6 hG rfl rfl rfl hX9 (s_X_peaceHeight t.lx t.rp t.wf t.q (x := (x : Int)) ⟨by omega, by omega⟩ t.z7 (fun e => absurd ⟨by omega, hx⟩ e) (fun _ J b h f => absurd h.1 (h0 b)) (fun _ J h f => ?_))
  · refine q_astoreJ_n hG rfl rfl ?_
    refine q_sipush (v := -30000) hG rfl rfl ?_
    refine q_iret0 hG rfl rfl ?_
    exact hp (junk B 6) J ((t.tr f).junk hM)
theorem s_L_noSum {d : Nat} {B : HP} {I : IM} {Post : Out → HP → Prop} {M L D : Nat} {R : RW} (t : TI M L D R B I) (hM : M + 1 ≤ 5000) (h0 : ∀ p, ¬ peS R (ptR R) p) (hp : ∀ (C : HP) (J : IM), TI (M + 1) L D R C J → Post (.inl (some (.int (i3 (-30000))))) (wI C J)) : Sp (d + 18) k_L_peaceSum [.ref 0] (wI B I) Post := by
  refine Sp_intro md_L_peaceSum rfl rfl (fun G hG => ?_)
  have b0 := t.b0
  have b1 := t.b1
  have hX9 := t.lx.1
  show G 0 [some (.ref 0), none] [] (wI B I)
  refine q_aload_n hG rfl rfl ?_
  refine q_callV6 hG rfl rfl rfl hX9 (s_X_peaceSum t.lx t.rp t.wf t.q t.z7 (fun J b h f => absurd h.1 (h0 b)) (fun J h f => ?_))
  · refine q_astoreJ_n hG rfl rfl ?_
    refine q_sipush (v := -30000) hG rfl rfl ?_
    refine q_iret0 hG rfl rfl ?_
    exact hp (junk B 6) J ((t.tr f).junk hM)
theorem s_L_sum {d : Nat} {B : HP} {I : IM} {Post : Out → HP → Prop} {M L D : Nat} {R : RW} (t : TI M L D R B I) {b : Nat → Int} (hb : fpR R b) (hp : ∀ J : IM, TI M L D R B J → Post (.inl (some (.int (i3 (sm b (R 0).toNat))))) (wI B J)) : Sp (d + 18) k_L_peaceSum [.ref 0] (wI B I) Post := by
  refine Sp_intro md_L_peaceSum rfl rfl (fun G hG => ?_)
  have b0 := t.b0
  have b1 := t.b1
  have hX9 := t.lx.1
  show G 0 [some (.ref 0), none] [] (wI B I)
  refine q_aload_n hG rfl rfl ?_
  refine q_callV6 hG rfl rfl rfl hX9 (s_X_peaceSum t.lx t.rp t.wf t.q t.z7 (fun J b2 h f => ?_) (fun J h f => absurd hb.1 (h b)))
  refine q_iret0 hG rfl rfl ?_
  have z := hp J (t.tr f)
  rw [show sm b (R 0).toNat = sm b2 (R 0).toNat from sm_congr _ (fun k hk => fp_one hb h k hk)] at z
  exact z
theorem s_L_noDoor {d : Nat} {B : HP} {I : IM} {Post : Out → HP → Prop} {M L D : Nat} {R : RW} (t : TI M L D R B I) (hM : M + 1 ≤ 5000)  (hp : ∀ (C : HP) (J : IM), TI (M + 1) L D R C J → Post (.inl (some (.int (i3 (-30000))))) (wI C J)) : Sp (d + 7) k_L_doorByWidth [.ref 0, .int (i3 (R 0))] (wI B I) Post := by
  refine Sp_intro md_L_doorByWidth rfl rfl (fun G hG => ?_)
  have b0 := t.b0
  have b1 := t.b1
  have hX9 := t.lx.1
  show G 0 [some (.ref 0), some (.int (i3 (R 0))), none] [] (wI B I)
  refine q_aload_n hG rfl rfl ?_
  refine q_iload_n hG rfl rfl ?_
  refine q_callV6 hG rfl rfl rfl hX9 (s_X_doorByWidth t.lx t.rp t.wf t.q ⟨by omega, by omega⟩ (fun e => ?_) (fun p hf => (dw_no R hf.1 hf.2.1).elim))
  · refine q_astoreJ_n hG rfl rfl ?_
    refine q_sipush (v := -30000) hG rfl rfl ?_
    refine q_iret0 hG rfl rfl ?_
    exact hp (junk B 6) I (t.junk hM)
theorem s_L_noGap {d : Nat} {B : HP} {I : IM} {Post : Out → HP → Prop} {M L D : Nat} {R : RW} (t : TI M L D R B I) (hM : M + 1 ≤ 5000)  (hp : ∀ (C : HP) (J : IM), TI (M + 1) L D R C J → Post (.inl (some (.int (i3 (-30000))))) (wI C J)) : Sp (d + 5) k_L_constraintByGap [.ref 0, .int (i3 (R 1))] (wI B I) Post := by
  refine Sp_intro md_L_constraintByGap rfl rfl (fun G hG => ?_)
  have b0 := t.b0
  have b1 := t.b1
  have hX9 := t.lx.1
  show G 0 [some (.ref 0), some (.int (i3 (R 1))), none] [] (wI B I)
  refine q_aload_n hG rfl rfl ?_
  refine q_iload_n hG rfl rfl ?_
  refine q_callV6 hG rfl rfl rfl hX9 (s_X_constraintByGap t.lx t.rp t.wf t.q ⟨by omega, by omega⟩ (fun e => ?_) (fun p hf => (cg_no R hf.1 hf.2.1).elim))
  · refine q_astoreJ_n hG rfl rfl ?_
    refine q_sipush (v := -30000) hG rfl rfl ?_
    refine q_iret0 hG rfl rfl ?_
    exact hp (junk B 6) I (t.junk hM)
theorem s_L_noAt {d : Nat} {B : HP} {I : IM} {Post : Out → HP → Prop} {M L D : Nat} {R : RW} (t : TI M L D R B I) (hM : M + 1 ≤ 5000)  (hp : ∀ (C : HP) (J : IM), TI (M + 1) L D R C J → Post (.inl (some (.int (i3 (-30000))))) (wI C J)) : Sp (d + 2) k_L_constraintAt [.ref 0, .int (i3 (-1))] (wI B I) Post := by
  refine Sp_intro md_L_constraintAt rfl rfl (fun G hG => ?_)
  have b0 := t.b0
  have b1 := t.b1
  have hX9 := t.lx.1
  show G 0 [some (.ref 0), some (.int (i3 (-1))), none] [] (wI B I)
  refine q_aload_n hG rfl rfl ?_
  refine q_iload_n hG rfl rfl ?_
  refine q_callV6 hG rfl rfl rfl hX9 (s_X_constraintAt t.lx t.rp t.wf t.q ⟨by omega, by omega⟩ (fun e => ?_) (fun e => absurd e.1 (by decide)))
  · refine q_astoreJ_n hG rfl rfl ?_
    refine q_sipush (v := -30000) hG rfl rfl ?_
    refine q_iret0 hG rfl rfl ?_
    exact hp (junk B 6) I (t.junk hM)
