/-! the output read, and what holds between two calls of the law -/
theorem doT_len {q : Int} {R : RW} (hW : WfR q R) {x : Nat} (hx : x < 6) : (doT R x).length ≤ 16 := by
  have nB := doB_len hW hx
  have nC : (doC R x).length ≤ 9 := by unfold doC; rw [List.length_append]; show (doB R x).length + 1 ≤ 9; omega
  unfold doT
  split
  · omega
  · rw [List.length_append]
    show (doC R x).length + 1 ≤ 16
    omega
theorem s_X_outputAt {d : Nat} {B : HP} {I : IM} {Post : Out → HP → Prop} (hX : LX B) {l : List Int} (hl : sbT I 158 159 l) (hl9 : l.length ≤ 16) {x : Int} (hv : r32 x) (pE : ¬ (0 ≤ x ∧ x < (l.length : Int)) → Post (.inr 2) (wI (junk B 6) I)) (p1 : 0 ≤ x ∧ x < (l.length : Int) → Post (.inl (some (.int (i3 (l.getD x.toNat 0))))) (wI B I)) : Sp (d + 5) k_X8_outputAt [.ref 0, .int (i3 (x))] (wI B I) Post := by
  refine Sp_intro md_X8_outputAt rfl rfl (fun G hG => ?_)
  have hX0 := hX
  obtain ⟨x0, x1, x2, x3, x4, x5, x6, x7, x8, x9, x10, x11, x12, x13, x14, x15, x16, x17, x18, x19, x20, x21, x22, x23, x24, x25, x26, x27, x28, x29, x30, x31, x32, x33, x34, x35, x36, x37, x38, x39, x40, x41, x42, x43, x44⟩ := hX
  obtain ⟨d1, d2, d3, d4, hF, hBd, hCo⟩ := x10
  obtain ⟨f1, f2, f3, f4, f5⟩ := hF
  obtain ⟨g1, g2, g3, g4, g5⟩ := hBd
  obtain ⟨c1, c2, c3, c4, c5, c6, c7, c8, c9, c10, c11⟩ := hCo
  obtain ⟨t1, t2, t3, t4, t5⟩ := x12
  have hv1 := hv.1
  have hv2 := hv.2
  have hO : oS B 158 159 16 := ⟨by assumption, by assumption, by assumption, by decide, by decide⟩
  have tc := hl.2.2.2
  show G 0 [some (.ref 0), some (.int (i3 (x)))] [] (wI B I)
  refine q_iload_n hG rfl rfl ?_
  refine q_if_lt hG rfl ⟨by omega, by omega⟩ (fun hc1 => ?_) (fun hc1 => ?_)
  · refine q_throw hG rfl ?_
    exact pE (by omega)
  · refine q_iload_n hG rfl rfl ?_
    refine q_aload_n hG rfl rfl ?_
    refine q_getR hG rfl (by assumption) (by assumption) ?_
    refine q_callV6 hG rfl rfl rfl (by assumption) (s_J_len hO.1 (z := (l.length : Int)) hl.2.1 ?_)
    refine q_icmp_lt hG rfl ⟨by omega, by omega⟩ ⟨by omega, by omega⟩ (fun hc12 => ?_) (fun hc12 => ?_)
    · refine q_aload_n hG rfl rfl ?_
      refine q_getR hG rfl (by assumption) (by assumption) ?_
      refine q_iload_n hG rfl rfl ?_
      refine q_callV6 hG rfl rfl rfl (by assumption) (s_J_at hO hl (j := x) ⟨by omega, by omega⟩ hl9 ?_)
      have hcj := tc.at (i := x.toNat) (by omega)
      refine q_iret3 hG rfl rfl (by omega) ?_
      exact p1 (by omega)
    · refine q_throw hG rfl ?_
      exact pE (by omega)
theorem ruT_len {q : Int} {R : RW} (hW : WfR q R) (hq9 : q ≤ 999999999) {p : Nat} (hpl : (p : Int) < R 1) : (ruT R p).length ≤ 16 := by
  obtain ⟨w0, w1, w2, w3, w4, wd, wc⟩ := hW
  obtain ⟨y1, y2, y3, y4, y5, y6, y7⟩ := wc p hpl
  have e10 : (10 : Nat) ^ (8 + 1) = 1000000000 := by decide
  have n1 := decL_le 8 (R (29 + 5 * p)).toNat (by rw [e10]; omega)
  have n2 := decL_le 0 (R (29 + 5 * p + 2)).toNat (by omega)
  have n3 := decL_le 0 (R (29 + 5 * p + 3)).toNat (by omega)
  have n4 := decL_le 1 (R (29 + 5 * p + 4)).toNat (by omega)
  have nA : (ruA R p).length ≤ 13 := by unfold ruA; simp only [List.length_append, List.length_cons, List.length_nil]; omega
  unfold ruT
  split
  · omega
  · rw [List.length_append, List.length_append]
    show (ruA R p).length + 1 + _ ≤ 16
    omega
theorem CSt.row {I J : IM} {R : RW} {c : Int} {h : Nat → RW} {sv : Int} {SR : RW} {eo why det cau : Int} (hC : CSt I R c h sv SR eo why det cau) (hr : ∀ a, a ≤ 145 ∨ a = 152 ∨ a = 157 → J a = I a) : CSt J R c h sv SR eo why det cau := by
  obtain ⟨a1, ⟨nx, a2⟩, a3, a4, a5, a6, a7, a8, a9⟩ := hC
  have e0 := hr 0 (by omega)
  exact ⟨a1.row (fun a p q => hr a (by omega)), ⟨nx, a2.row (fun a p q => hr a (by omega))⟩, by rw [e0]; exact a3, fun hs => (a4 hs).row (fun a p q => hr a (by omega)), by rw [e0]; exact a5, by rw [e0]; exact a6, by rw [e0]; exact a7, by rw [e0]; exact a8, fun k hk => by rw [hr 152 (by omega), hr 157 (by omega)]; exact a9 k hk⟩
/-- the class's side -/
def SC (B : HP) (I : IM) (R : RW) (c : Int) (h : Nat → RW) (sv : Int) (SR : RW) (eo why det cau : Int) (o l : List Int) : Prop := CSt I R c h sv SR eo why det cau ∧ sbT I 158 159 o ∧ ∃ v n, txS B I v n l
/-- the reference's side -/
def SM (I : IM) (R : RW) (c : Int) (h : Nat → RW) (sv : Int) (SR : RW) (eo why det cau : Int) (o l : List Int) : Prop := MSt I 178 R c h sv SR eo why det cau ∧ wrR I 178 o ∧ inR I 178 l
/-- the reference alone changes -/
def frM (I J : IM) : Prop := ∀ a, a < 178 ∨ 183 < a → J a = I a
/-- the class alone changes -/
def frX (I J : IM) : Prop := ∀ a, 178 ≤ a ∧ a ≤ 183 ∨ BIG ≤ a → J a = I a
theorem frM.refl (I : IM) : frM I I := fun _ _ => rfl
theorem frX.refl (I : IM) : frX I I := fun _ _ => rfl
theorem frM.trans {I J K : IM} (p : frM I J) (q : frM J K) : frM I K := fun a ha => (q a ha).trans (p a ha)
theorem trf.X {I J : IM} (p : trf I J) : frX I J := fun a ha => p a (by have : BIG = 1000000000 := rfl; omega)
theorem fr158 {I J : IM} (p : ∀ a, 158 ≤ a → J a = I a) : frX I J := fun a ha => p a (by have : BIG = 1000000000 := rfl; omega)
theorem fr150 {I J : IM} (p : ∀ a, (a ≤ 145 ∨ 150 ≤ a) → J a = I a) : trf I J := fun a ha => p a (by omega)
theorem sth.fM {I J : IM} (p : sth I J 178) : frM I J := fun a ha => p.1 a (by omega)
theorem mfT.fM {I J : IM} (p : mfT I J 178) : frM I J := fun a ha => p.1 a (by omega) (by omega)
theorem mfz.fM {I J : IM} (p : mfz I J 178) : frM I J := fun a ha => p.1 a (by omega) (by omega)
theorem mfX.fM {I J : IM} (p : mfX I J 178) : frM I J := fun a ha => p.1 a (by omega) (by omega) (by omega)
theorem ofz.fM {I J : IM} (p : ofz I J 178) : frM I J := fun a ha => p.1 a (by omega) (by omega)
theorem txS.row {B : HP} {I J : IM} {v n : Nat} {l : List Int} (t : txS B I v n l) (hr : ∀ a, a = 161 ∨ a = 162 ∨ 186 ≤ a ∧ a < hn B → J a = I a) : txS B J v n l := by
  obtain ⟨t1, t2, t3, t4, t5⟩ := t
  exact ⟨t1, t2.row (hr 161 (by omega)) (hr v (by omega)), t3, t4, t5⟩
theorem SC.row {B : HP} {I J : IM} {R : RW} {c : Int} {h : Nat → RW} {sv : Int} {SR : RW} {eo why det cau : Int} {o l : List Int} (s : SC B I R c h sv SR eo why det cau o l) (hr : ∀ a, a ≤ 145 ∨ a = 152 ∨ 157 ≤ a ∧ a < 178 ∨ 186 ≤ a → J a = I a) : SC B J R c h sv SR eo why det cau o l := by
  obtain ⟨s1, s2, v, n, s3⟩ := s
  exact ⟨s1.row (fun a p => hr a (by omega)), s2.row (hr 158 (by omega)) (hr 159 (by omega)), v, n, s3.row (fun a p => hr a (by omega))⟩
theorem SC.trf {B : HP} {I J : IM} {R : RW} {c : Int} {h : Nat → RW} {sv : Int} {SR : RW} {eo why det cau : Int} {o l : List Int} (s : SC B I R c h sv SR eo why det cau o l) (hr : trf I J) : SC B J R c h sv SR eo why det cau o l := s.row (fun a p => hr a (by omega))
theorem SC.ref {B : HP} {I J : IM} {R : RW} {c : Int} {h : Nat → RW} {sv : Int} {SR : RW} {eo why det cau : Int} {o l : List Int} (s : SC B I R c h sv SR eo why det cau o l) (hr : frM I J) : SC B J R c h sv SR eo why det cau o l := s.row (fun a p => hr a (by omega))
theorem SC.chg {B : HP} {I J : IM} {R : RW} {c : Int} {h : Nat → RW} {sv : Int} {SR : RW} {eo why det cau : Int} {R2 : RW} {c2 : Int} {h2 : Nat → RW} {sv2 : Int} {SR2 : RW} {eo2 why2 det2 cau2 : Int} {o l : List Int} (s : SC B I R c h sv SR eo why det cau o l) (hC : CSt J R2 c2 h2 sv2 SR2 eo2 why2 det2 cau2) (hr : ∀ a, 158 ≤ a → J a = I a) : SC B J R2 c2 h2 sv2 SR2 eo2 why2 det2 cau2 o l := by
  obtain ⟨s1, s2, v, n, s3⟩ := s
  exact ⟨hC, s2.row (hr 158 (by omega)) (hr 159 (by omega)), v, n, s3.row (fun a p => hr a (by omega))⟩
theorem SC.out {B : HP} {I J : IM} {R : RW} {c : Int} {h : Nat → RW} {sv : Int} {SR : RW} {eo why det cau : Int} {o o' l : List Int} (s : SC B I R c h sv SR eo why det cau o l) (hO : sbT J 158 159 o') (hr : ∀ a, a ≠ 158 → a ≠ 159 → J a = I a) : SC B J R c h sv SR eo why det cau o' l := by
  obtain ⟨s1, s2, v, n, s3⟩ := s
  exact ⟨s1.row (fun a p => hr a (by omega) (by omega)), hO, v, n, s3.row (fun a p => hr a (by omega) (by omega))⟩
theorem SM.row {I J : IM} {R : RW} {c : Int} {h : Nat → RW} {sv : Int} {SR : RW} {eo why det cau : Int} {o l : List Int} (s : SM I R c h sv SR eo why det cau o l) (hr : ∀ a, 178 ≤ a ∧ a ≤ 183 → J a = I a) : SM J R c h sv SR eo why det cau o l := by
  obtain ⟨s1, s2, s3⟩ := s
  have e0 := hr 178 (by omega)
  refine ⟨s1.mv (hr 179 (by omega)) (by rw [e0]) (by rw [e0]) (by rw [e0]; exact s1.2.2.2.2.1) (by rw [e0]) (by rw [e0]) (by rw [e0]), ⟨by rw [e0]; exact s2.1, fun i hi => ?_, s2.2.2⟩, s3.mv (by rw [e0]) (hr 182 (by omega))⟩
  show J 181 i = _
  rw [hr 181 (by omega)]
  exact s2.2.1 i hi
theorem SM.cls {I J : IM} {R : RW} {c : Int} {h : Nat → RW} {sv : Int} {SR : RW} {eo why det cau : Int} {o l : List Int} (s : SM I R c h sv SR eo why det cau o l) (hr : frX I J) : SM J R c h sv SR eo why det cau o l := s.row (fun a p => hr a (Or.inl p))
theorem SM.rest {I J : IM} {R : RW} {c : Int} {h : Nat → RW} {sv : Int} {SR : RW} {eo why det cau : Int} {R2 : RW} {c2 : Int} {h2 : Nat → RW} {sv2 : Int} {SR2 : RW} {eo2 why2 det2 cau2 : Int} {o l : List Int} (s : SM I R c h sv SR eo why det cau o l) (hM : MSt J 178 R2 c2 h2 sv2 SR2 eo2 why2 det2 cau2) (h14 : J 178 14 = I 178 14) (h16 : J 178 16 = I 178 16) (h3 : J 181 = I 181) (h4 : J 182 = I 182) : SM J R2 c2 h2 sv2 SR2 eo2 why2 det2 cau2 o l := by
  obtain ⟨s1, s2, s3⟩ := s
  refine ⟨hM, ⟨h14.trans s2.1, fun i hi => ?_, s2.2.2⟩, s3.mv h16 h4⟩
  show J 181 i = _
  rw [h3]
  exact s2.2.1 i hi
theorem SM.chg {I J : IM} {R : RW} {c : Int} {h : Nat → RW} {sv : Int} {SR : RW} {eo why det cau : Int} {R2 : RW} {c2 : Int} {h2 : Nat → RW} {sv2 : Int} {SR2 : RW} {eo2 why2 det2 cau2 : Int} {o l : List Int} (s : SM I R c h sv SR eo why det cau o l) (hM : MSt J 178 R2 c2 h2 sv2 SR2 eo2 why2 det2 cau2) (f : mfT I J 178) : SM J R2 c2 h2 sv2 SR2 eo2 why2 det2 cau2 o l := s.rest hM (f.2 14 (by decide)) (f.2 16 (by decide)) (f.1 181 (by decide) (by decide)) (f.1 182 (by decide) (by decide))
theorem SM.sth {I J : IM} {R : RW} {c : Int} {h : Nat → RW} {sv : Int} {SR : RW} {eo why det cau : Int} {o l : List Int} (s : SM I R c h sv SR eo why det cau o l) (f : sth I J 178) : SM J R c h sv SR eo why det cau o l := s.rest (s.1.mv (f.1 179 (by decide)) (f.2 2 (by decide)) (f.2 3 (by decide)) ((f.2 19 (by decide)).trans s.1.2.2.2.2.1) (f.2 5 (by decide)) (f.2 6 (by decide)) (f.2 7 (by decide))) (f.2 14 (by decide)) (f.2 16 (by decide)) (f.1 181 (by decide)) (f.1 182 (by decide))
theorem SM.t {I : IM} {R : RW} {c : Int} {h : Nat → RW} {sv : Int} {SR : RW} {eo why det cau : Int} {o l : List Int} (s : SM I R c h sv SR eo why det cau o l) (z : Int) : SM (st I 178 0 z) R c h sv SR eo why det cau o l := s.sth ((sth.refl I 178).t z)
theorem SM.z {I J : IM} {R : RW} {c : Int} {h : Nat → RW} {sv : Int} {SR : RW} {eo why det cau : Int} {o l : List Int} (s : SM I R c h sv SR eo why det cau o l) (hR : RepM J 178 0 R) (f : mfz I J 178) : SM J R c h sv SR eo why det cau o l := by
  obtain ⟨m1, m2, m3, m4, m5, m6, m7, m8⟩ := s.1
  have g : ∀ k, k ≠ 0 → k ≠ 4 → k ≠ 8 → k ≠ 9 → k ≠ 10 → k ≠ 11 → J 178 k = I 178 k := f.2.1
  refine s.rest ⟨hR, m2.keep (g 2 (by decide) (by decide) (by decide) (by decide) (by decide) (by decide)) (fun j p q => f.2.2 j (by omega)), by rw [g 3 (by decide) (by decide) (by decide) (by decide) (by decide) (by decide)]; exact m3, fun hs => (m4 hs).row (fun j p q => f.2.2 j (by omega)), (g 19 (by decide) (by decide) (by decide) (by decide) (by decide) (by decide)).trans m5, (g 5 (by decide) (by decide) (by decide) (by decide) (by decide) (by decide)).trans m6, (g 6 (by decide) (by decide) (by decide) (by decide) (by decide) (by decide)).trans m7, (g 7 (by decide) (by decide) (by decide) (by decide) (by decide) (by decide)).trans m8⟩ (g 14 (by decide) (by decide) (by decide) (by decide) (by decide) (by decide)) (g 16 (by decide) (by decide) (by decide) (by decide) (by decide) (by decide)) (f.1 181 (by decide) (by decide)) (f.1 182 (by decide) (by decide))
theorem SM.out {I J : IM} {R : RW} {c : Int} {h : Nat → RW} {sv : Int} {SR : RW} {eo why det cau : Int} {o o' l : List Int} (s : SM I R c h sv SR eo why det cau o l) (hO : wrR J 178 o') (f : ofz I J 178) : SM J R c h sv SR eo why det cau o' l := by
  obtain ⟨s1, s2, s3⟩ := s
  exact ⟨s1.mv (f.1 179 (by decide) (by decide)) (f.2 2 (by decide) (by decide)) (f.2 3 (by decide) (by decide)) ((f.2 19 (by decide) (by decide)).trans s1.2.2.2.2.1) (f.2 5 (by decide) (by decide)) (f.2 6 (by decide) (by decide)) (f.2 7 (by decide) (by decide)), hO, s3.mv (f.2 16 (by decide) (by decide)) (f.1 182 (by decide) (by decide))⟩
theorem SM.inp {I J : IM} {R : RW} {c : Int} {h : Nat → RW} {sv : Int} {SR : RW} {eo why det cau : Int} {o l l' : List Int} (s : SM I R c h sv SR eo why det cau o l) (hi : inR J 178 l') (f : ∀ a, a ≠ 178 → a ≠ 182 → J a = I a) (g : ∀ k, k ≠ 0 → k ≠ 16 → J 178 k = I 178 k) : SM J R c h sv SR eo why det cau o l' := by
  obtain ⟨s1, s2, s3⟩ := s
  refine ⟨s1.mv (f 179 (by decide) (by decide)) (g 2 (by decide) (by decide)) (g 3 (by decide) (by decide)) ((g 19 (by decide) (by decide)).trans s1.2.2.2.2.1) (g 5 (by decide) (by decide)) (g 6 (by decide) (by decide)) (g 7 (by decide) (by decide)), ⟨(g 14 (by decide) (by decide)).trans s2.1, fun i hi => ?_, s2.2.2⟩, hi⟩
  show J 181 i = _
  rw [f 181 (by decide) (by decide)]
  exact s2.2.1 i hi
theorem SM.exe {I J : IM} {R : RW} {c : Int} {h : Nat → RW} {sv : Int} {SR : RW} {eo why det cau : Int} {R2 : RW} {c2 : Int} {h2 : Nat → RW} {sv2 : Int} {SR2 : RW} {eo2 why2 det2 cau2 : Int} {o l : List Int} (s : SM I R c h sv SR eo why det cau o l) (hM : MSt J 178 R2 c2 h2 sv2 SR2 eo2 why2 det2 cau2) (h16 : J 178 16 = 0) (f : mfX I J 178) : SM J R2 c2 h2 sv2 SR2 eo2 why2 det2 cau2 o [] := by
  obtain ⟨s1, s2, s3⟩ := s
  refine ⟨hM, ⟨f.2.trans s2.1, fun i hi => ?_, s2.2.2⟩, ⟨h16, fun i hi => absurd hi (by simp), chL.nil, by simp⟩⟩
  show J 181 i = _
  rw [f.1 181 (by decide) (by decide) (by decide)]
  exact s2.2.1 i hi
theorem SC.exe {B : HP} {I J : IM} {R : RW} {c : Int} {h : Nat → RW} {sv : Int} {SR : RW} {eo why det cau : Int} {R2 : RW} {c2 : Int} {h2 : Nat → RW} {sv2 : Int} {SR2 : RW} {eo2 why2 det2 cau2 : Int} {o l : List Int} (s : SC B I R c h sv SR eo why det cau o l) (hC : CSt J R2 c2 h2 sv2 SR2 eo2 why2 det2 cau2) {v n : Nat} (t : txS B I v n l) (h : sbT J 161 v []) (f : xfr I J) : SC B J R2 c2 h2 sv2 SR2 eo2 why2 det2 cau2 o [] := by
  obtain ⟨s1, s2, _⟩ := s
  obtain ⟨t1, t2, t3, t4, t5⟩ := t
  exact ⟨hC, s2.row (f 158 (by omega)) (f 159 (by omega)), v, n, t1, h, by simp, t4, t5⟩
/-- the still parts grow by one cell at most -/
def upB (B B' : HP) : Prop := (∀ a, hK B' a = hK B a) ∧ (∀ a i, hR B' a i = hR B a i) ∧ (hn B ≤ hn B' ∧ hn B' ≤ hn B + 1) ∧ (hw B ≤ hw B' ∧ hw B' ≤ hw B + 70) ∧ (vdD (domJ (hJ B) 178 0) → vdD (domJ (hJ B') 178 0))
theorem upB.refl (B : HP) : upB B B := ⟨fun _ => rfl, fun _ _ => rfl, ⟨Nat.le_refl _, Nat.le_succ _⟩, ⟨Nat.le_refl _, Nat.le_add_right _ _⟩, id⟩
theorem upB.junk (B : HP) : upB B (junk B 6) := ⟨fun _ => rfl, fun _ _ => rfl, ⟨Nat.le_succ _, Nat.le_refl _⟩, ⟨Nat.le_add_right _ _, by show hw B + 6 ≤ hw B + 70; omega⟩, id⟩
theorem upB.J {B B' : HP} (u : upB B B') (v : Int64) : upB B (sJ B' 184 0 v) := ⟨u.1, u.2.1, u.2.2.1, u.2.2.2.1, fun hv k hk => by
  have e : domJ (hJ (sJ B' 184 0 v)) 178 0 k = domJ (hJ B') 178 0 k := up2_ne (Js := hJ B') (a := 184) (i := 0) (v := v) (b := 178 + 2) (j := 6 * 0 + k) (fun z => absurd z.1 (by decide))
  rw [e]
  exact u.2.2.2.2 hv k hk⟩
theorem upB.U {B B' : HP} (u : upB B B') (v : UInt64) : upB B (sU B' 185 0 v) := u
theorem upB.L {B B' : HP} (u : upB B B') {Ls : Nat → Nat → Int64} (hv : vdD (domJ Ls 178 0)) : upB B (wL B' Ls) := ⟨u.1, u.2.1, u.2.2.1, u.2.2.2.1, fun _ => hv⟩
theorem upB.cg {B B' : HP} (u : upB B B') : cgB B B' := fun b _ => ⟨u.1 b, fun i _ => u.2.1 b i⟩
/-- the still parts after N calls -/
def BI (N L : Nat) (B : HP) : Prop := LX B ∧ oM B 178 ∧ hK B 184 = (2, 1) ∧ hK B 185 = (5, 1) ∧ hK B (BIG + 20) = (9, L) ∧ (186 ≤ hn B ∧ hn B ≤ 186 + N) ∧ hw B ≤ 8000 + 70 * N ∧ vdD (domJ (hJ B) 178 0)
theorem BI.up {N L : Nat} {B B' : HP} (b : BI N L B) (u : upB B B') : BI (N + 1) L B' := by
  obtain ⟨b1, b2, b3, b4, b5, b6, b7, b8⟩ := b
  have u3 := u.2.2.1
  have u4 := u.2.2.2.1
  exact ⟨b1.cg u.cg, b2.cg u.cg, (u.1 _).trans b3, (u.1 _).trans b4, (u.1 _).trans b5, by omega, by omega, u.2.2.2.2 b8⟩
theorem SC.up {B B' : HP} {I : IM} {R : RW} {c : Int} {h : Nat → RW} {sv : Int} {SR : RW} {eo why det cau : Int} {o l : List Int} (s : SC B I R c h sv SR eo why det cau o l) (u : upB B B') : SC B' I R c h sv SR eo why det cau o l := by
  obtain ⟨s1, s2, v, n, ⟨o1, o2, o3, o4⟩, s4, s5, s6, s7⟩ := s
  have u3 := u.2.2.1
  exact ⟨s1, s2, v, n, ⟨(u.1 _).trans o1, (u.2.1 _ _).trans o2, (u.1 _).trans o3, o4⟩, s4, s5, by omega, s7⟩
theorem kS.mv {B B' : HP} {I J : IM} {k : Nat} {l : List Int} (h : kS B I k l) (hk : ∀ a, BIG ≤ a → hK B' a = hK B a) (hh : ∀ a i, BIG ≤ a → hR B' a i = hR B a i) (hr : ∀ a, BIG ≤ a → J a = I a) : kS B' J k l := by
  obtain ⟨a, b, c, d, e, f⟩ := h
  exact ⟨(hk _ (by omega)).trans a, (hh _ _ (by omega)).trans b, by rw [hr _ (by omega)]; exact c, (hk _ (by omega)).trans d, fun i hi => by rw [hr _ (by omega)]; exact e i hi, f⟩
theorem kFm.mv {B B' : HP} {I J : IM} (h : kFm B I) (hk : ∀ a, BIG ≤ a → hK B' a = hK B a) (hh : ∀ a i, BIG ≤ a → hR B' a i = hR B a i) (hr : ∀ a, BIG ≤ a → J a = I a) : kFm B' J := by
  obtain ⟨a, b, c, d, e, f, g, k⟩ := h
  exact ⟨a.mv hk hh hr, b.mv hk hh hr, c.mv hk hh hr, d.mv hk hh hr, e.mv hk hh hr, f.mv hk hh hr, g.mv hk hh hr, k.mv hk hh hr⟩
theorem kC.mv {B B' : HP} {I J : IM} (h : kC B I) (hk : ∀ a, BIG ≤ a → hK B' a = hK B a) (hr : ∀ a, BIG ≤ a → J a = I a) : kC B' J := ⟨(hk _ (by omega)).trans h.1, (hk _ (by omega)).trans h.2.1, fun i hi => by rw [hr _ (by omega), hr _ (by omega)]; exact h.2.2 i hi⟩
/-- the constants, the law's numbers among them -/
def KI (B : HP) (I : IM) : Prop := kC B I ∧ kS B I 0 [46, 46] ∧ kFm B I ∧ ∀ k, r32 (I (BIG + 20) k)
theorem KI.mv {B B' : HP} {I J : IM} (h : KI B I) (hk : ∀ a, BIG ≤ a → hK B' a = hK B a) (hh : ∀ a i, BIG ≤ a → hR B' a i = hR B a i) (hr : ∀ a, BIG ≤ a → J a = I a) : KI B' J := ⟨h.1.mv hk hr, h.2.1.mv hk hh hr, h.2.2.1.mv hk hh hr, fun k => by rw [hr _ (by omega)]; exact h.2.2.2 k⟩
/-- how large all that is kept is after N calls -/
def WI (N : Nat) (R : RW) (c : Int) (h : Nat → RW) (sv : Int) (SR : RW) (eo why det cau : Int) (o l : List Int) : Prop := WfR (20000 * (N : Int)) R ∧ (∀ j : Nat, (j : Int) < c → WfR (20000 * (N : Int)) (h j)) ∧ (sv = 1 → WfR (20000 * (N : Int)) SR) ∧ (r32 eo ∧ r32 why) ∧ l.length ≤ 60 ∧ o.length ≤ 16
theorem WI.up {N : Nat} {R : RW} {c : Int} {h : Nat → RW} {sv : Int} {SR : RW} {eo why det cau : Int} {o l : List Int} (q : WI N R c h sv SR eo why det cau o l) : WI (N + 1) R c h sv SR eo why det cau o l := by
  obtain ⟨q1, q2, q3, q4⟩ := q
  exact ⟨q1.up (by omega), fun j hj => (q2 j hj).up (by omega), fun hs => (q3 hs).up (by omega), q4⟩
/-- a change is kept in the history -/
theorem WI.chg {N : Nat} {R : RW} {c : Int} {h : Nat → RW} {sv : Int} {SR : RW} {eo why det cau : Int} {o l : List Int} (q : WI N R c h sv SR eo why det cau o l) {R2 : RW} (hW : WfR (20000 * (N : Int) + 20000) R2) : WI (N + 1) R2 (c8 c) (psh R h) sv SR eo why det cau o l := by
  obtain ⟨q1, q2, q3, q4⟩ := q
  refine ⟨hW.up (by omega), fun j hj => ?_, fun hs => (q3 hs).up (by omega), q4⟩
  unfold psh
  unfold c8 at hj
  by_cases e : j = 0
  · rw [if_pos e]; exact q1.up (by omega)
  · rw [if_neg e]
    exact (q2 (j - 1) (by split at hj <;> omega)).up (by omega)
theorem WI.rej {N : Nat} {R : RW} {c : Int} {h : Nat → RW} {sv : Int} {SR : RW} {eo why det cau : Int} {o l : List Int} (q : WI N R c h sv SR eo why det cau o l) {w d u : Int} (h1 : r32 w) : WI (N + 1) R c h sv SR eo w d u o l := by
  obtain ⟨q1, q2, q3, q4, q5⟩ := q.up
  exact ⟨q1, q2, q3, ⟨q4.1, h1⟩, q5⟩
theorem WI.io {N : Nat} {R : RW} {c : Int} {h : Nat → RW} {sv : Int} {SR : RW} {eo why det cau : Int} {o l : List Int} (q : WI N R c h sv SR eo why det cau o l) {o' l' : List Int} (h1 : l'.length ≤ 60) (h2 : o'.length ≤ 16) : WI N R c h sv SR eo why det cau o' l' := ⟨q.1, q.2.1, q.2.2.1, q.2.2.2.1, h1, h2⟩
/-- what holds between two calls -/
def INV (N L : Nat) (B : HP) (I : IM) : Prop := ∃ (R : RW) (c : Int) (h : Nat → RW) (sv : Int) (SR : RW) (eo why det cau : Int) (o l : List Int), BI N L B ∧ KI B I ∧ SC B I R c h sv SR eo why det cau o l ∧ SM I R c h sv SR eo why det cau o l ∧ WI N R c h sv SR eo why det cau o l
/-- a new state stands -/
theorem INV.of {N L : Nat} {B B' : HP} {I J K : IM} {R2 : RW} {c2 : Int} {h2 : Nat → RW} {sv2 : Int} {SR2 : RW} {eo2 why2 det2 cau2 : Int} {o l : List Int} (b : BI N L B) (k : KI B I) (u : upB B B') (s : SC B J R2 c2 h2 sv2 SR2 eo2 why2 det2 cau2 o l) (m : SM K R2 c2 h2 sv2 SR2 eo2 why2 det2 cau2 o l) (f : frX I J) (g : frM J K) (q : WI (N + 1) R2 c2 h2 sv2 SR2 eo2 why2 det2 cau2 o l) : INV (N + 1) L B' K := ⟨R2, c2, h2, sv2, SR2, eo2, why2, det2, cau2, o, l, b.up u, k.mv (fun a _ => u.1 a) (fun a i _ => u.2.1 a i) (fun a ha => (g a (by have : BIG = 1000000000 := rfl; omega)).trans (f a (Or.inr ha))), (s.ref g).up u, m, q⟩
