/-! the class: history, and the changes as they are called -/
def HistC (I : IM) (c : Int) (nx : Nat) (h : Nat → RW) : Prop := I 14 0 = c ∧ (0 ≤ c ∧ c ≤ 8) ∧ I 14 1 = (nx : Int) ∧ nx < 9 ∧ ∀ j : Nat, (j : Int) < c → RepC I (16 + 13 * ((nx + 8 - j) % 9)) (h j)
def CSt (I : IM) (R : RW) (c : Int) (h : Nat → RW) (sv : Int) (SR : RW) (eo why det cau : Int) : Prop := RepC I 1 R ∧ (∃ nx, HistC I c nx h) ∧ (I 0 3 = sv ∧ (sv = 0 ∨ sv = 1)) ∧ (sv = 1 → RepC I 133 SR) ∧ I 0 10 = eo ∧ I 0 11 = why ∧ I 0 12 = det ∧ I 0 13 = cau ∧ (∀ k, k < 10 → I 152 k = 0 ∧ I 157 k = 0)
def psh (R : RW) (h : Nat → RW) : Nat → RW := fun j => if j = 0 then R else h (j - 1)
def c8 (c : Int) : Int := if 8 < c + 1 then 8 else c + 1
theorem RepC.copy {I J : IM} {s t : Nat} {R : RW} (hn : R 1 ≤ 10) (h : RepC I s R) (e : dEq I s J t) : RepC J t R := by
  obtain ⟨r0, r1, r2, r3, r4, rd, rc, ry⟩ := h
  obtain ⟨e0, e3, e4, ed, e1, e2, ec⟩ := e
  refine ⟨e0.trans r0, e1.trans r1, e2.trans r2, e3.trans r3, e4.trans r4, fun k hk => ?_, fun k hk => ?_, fun k hk => ?_⟩
  · obtain ⟨a1, a2, a3, a4⟩ := ed k hk
    rw [a1, a2, a3, a4]
    exact rd k hk
  · obtain ⟨a1, a2, a3, a4, a5⟩ := ec k (by omega)
    rw [a1, a2, a3, a4, a5]
    exact rc k hk
  · rw [(ec k hk).2.1]
    exact ry k hk
theorem HistC.row {I J : IM} {c : Int} {nx : Nat} {h : Nat → RW} (hh : HistC I c nx h) (hr : ∀ a, 14 ≤ a → a ≤ 132 → J a = I a) : HistC J c nx h := by
  obtain ⟨a, b, d, e, f⟩ := hh
  refine ⟨by rw [hr 14 (by omega) (by omega)]; exact a, b, by rw [hr 14 (by omega) (by omega)]; exact d, e, fun j hj => (f j hj).row (fun q h1 h2 => hr q (by omega) (by omega))⟩
theorem HistC.prep {I J : IM} {c : Int} {nx : Nat} {h : Nat → RW} (hh : HistC I c nx h) (hr : ∀ a, a < 16 + 13 * nx ∨ 16 + 13 * nx + 12 < a → J a = I a) : HistC J c nx h := by
  obtain ⟨a, b, d, e, f⟩ := hh
  refine ⟨by rw [hr 14 (by omega)]; exact a, b, by rw [hr 14 (by omega)]; exact d, e, fun j hj => (f j hj).row (fun q h1 h2 => hr q ?_)⟩
  have : (nx + 8 - j) % 9 ≠ nx := by omega
  omega
theorem HistC.keep {I J : IM} {c : Int} {nx : Nat} {h : Nat → RW} {R : RW} (hh : HistC I c nx h) (hR : RepC I (16 + 13 * nx) R) (h1 : J 14 1 = (((nx + 1) % 9 : Nat) : Int)) (h0 : J 14 0 = c8 c) (hr : ∀ a, a ≠ 14 → J a = I a) : HistC J (c8 c) ((nx + 1) % 9) (psh R h) := by
  obtain ⟨a, b, d, e, f⟩ := hh
  have hb : 0 ≤ c8 c ∧ c8 c ≤ 8 := by unfold c8; split <;> omega
  refine ⟨h0, hb, h1, by omega, fun j hj => ?_⟩
  unfold psh
  by_cases e0 : j = 0
  · subst e0
    rw [if_pos rfl, show ((nx + 1) % 9 + 8 - 0) % 9 = nx by omega]
    exact hR.row (fun q h1 h2 => hr q (by omega))
  · rw [if_neg e0]
    have hj8 : j < 8 := by omega
    have hjc : (j : Int) < c + 1 := by unfold c8 at hj; split at hj <;> omega
    rw [show ((nx + 1) % 9 + 8 - j) % 9 = (nx + 8 - (j - 1)) % 9 by omega]
    exact (f (j - 1) (by omega)).row (fun q h1 h2 => hr q (by omega))
theorem HistC.back {I J : IM} {c : Int} {nx : Nat} {h : Nat → RW} (hh : HistC I c nx h) (hc : 0 < c) (h1 : J 14 1 = (((nx + 8) % 9 : Nat) : Int)) (h0 : J 14 0 = c - 1) (hr : ∀ a, 14 < a → a ≤ 132 → J a = I a) : HistC J (c - 1) ((nx + 8) % 9) (fun j => h (j + 1)) := by
  obtain ⟨a, b, d, e, f⟩ := hh
  refine ⟨h0, by omega, h1, by omega, fun j hj => ?_⟩
  rw [show ((nx + 8) % 9 + 8 - j) % 9 = (nx + 8 - (j + 1)) % 9 by omega]
  exact (f (j + 1) (by omega)).row (fun q h1 h2 => hr q (by omega) (by omega))
theorem kept_ok {I J1 J2 J3 : IM} {R R' : RW} {c : Int} {h : Nat → RW} {nx : Nat} {sv : Int} {SR : RW} {eo why det cau : Int} (hC : CSt I R c h sv SR eo why det cau) (hH : HistC I c nx h) (p1 : RepC J1 (16 + 13 * nx) R) (p2 : ∀ a, a < 16 + 13 * nx ∨ 16 + 13 * nx + 12 < a → J1 a = I a) (o1 : RepC J2 1 R') (o2 : dfr J1 J2) (k1 : J3 14 1 = (((nx + 1) % 9 : Nat) : Int)) (k2 : J3 14 0 = c8 c) (k3 : ∀ a, a ≠ 14 → J3 a = J2 a) : CSt J3 R' (c8 c) (psh R h) sv SR eo why det cau ∧ ∀ a, 158 ≤ a → J3 a = I a := by
  obtain ⟨a1, -, a3, a4, a5, a6, a7, a8, a9⟩ := hC
  have hn := hH.2.2.2.1
  have hr : ∀ a, (a = 0 ∨ 133 ≤ a ∧ a ≤ 145 ∨ 150 ≤ a) → J3 a = I a := fun a ha => by rw [k3 a (by omega), o2 a (by omega), p2 a (by omega)]
  refine ⟨⟨o1.row (fun q h1 h2 => k3 q (by omega)), ⟨(nx + 1) % 9, ?_⟩, ?_, fun z => (a4 z).row (fun q h1 h2 => hr q (by omega)), ?_, ?_, ?_, ?_, fun k hk => ?_⟩, fun a ha => hr a (by omega)⟩
  · exact HistC.keep (I := J2) ((hH.prep p2).row (fun q h1 h2 => o2 q (by omega))) (p1.row (fun q h1 h2 => o2 q (by omega))) k1 k2 k3
  · rw [hr 0 (by omega)]; exact a3
  · rw [hr 0 (by omega)]; exact a5
  · rw [hr 0 (by omega)]; exact a6
  · rw [hr 0 (by omega)]; exact a7
  · rw [hr 0 (by omega)]; exact a8
  · rw [hr 152 (by omega), hr 157 (by omega)]; exact a9 k hk
theorem rej_ok {I J1 J2 : IM} {R : RW} {c : Int} {h : Nat → RW} {nx : Nat} {sv : Int} {SR : RW} {eo why det cau r e : Int} (hC : CSt I R c h sv SR eo why det cau) (hH : HistC I c nx h) (p2 : ∀ a, a < 16 + 13 * nx ∨ 16 + 13 * nx + 12 < a → J1 a = I a) (o : rjf J1 J2 r e) : CSt J2 R c h sv SR eo r e cau ∧ ∀ a, 158 ≤ a → J2 a = I a := by
  obtain ⟨a1, -, a3, a4, a5, a6, a7, a8, a9⟩ := hC
  have hn := hH.2.2.2.1
  have hr : ∀ a, (1 ≤ a ∧ a ≤ 13 ∨ 133 ≤ a ∧ a ≤ 145 ∨ 150 ≤ a) → J2 a = I a := fun a ha => by rw [o.2 a (by omega), p2 a (by omega)]
  have h0 : J1 0 = I 0 := p2 0 (by omega)
  refine ⟨⟨a1.row (fun q h1 h2 => hr q (by omega)), ⟨nx, (hH.prep p2).row (fun q h1 h2 => o.2 q (by omega))⟩, ?_, fun z => (a4 z).row (fun q h1 h2 => hr q (by omega)), ?_, ?_, ?_, ?_, fun k hk => ?_⟩, fun a ha => hr a (by omega)⟩
  · rw [o.1, h0]; exact a3
  · rw [o.1, h0]; exact a5
  · rw [o.1]; rfl
  · rw [o.1]; rfl
  · rw [o.1, h0]; exact a8
  · rw [hr 152 (by omega), hr 157 (by omega)]; exact a9 k hk

theorem s_H_prepare {d : Nat} {B : HP} {I : IM} {Post : Out → HP → Prop} (hX : LX B) {c : Int} {nx : Nat} {h : Nat → RW} (hH : HistC I c nx h) {R : RW} (hR : RepC I 1 R) (hn1 : R 1 ≤ 10) (hp : ∀ J : IM, RepC J (16 + 13 * nx) R → (∀ a, a < 16 + 13 * nx ∨ 16 + 13 * nx + 12 < a → J a = I a) → Post (.inl none) (wI B J)) : Sp (d + 3) k_X3_prepare [.ref 14, .ref 1] (wI B I) Post := by
  refine Sp_intro md_X3_prepare rfl rfl (fun G hG => ?_)
  have hX0 := hX
  obtain ⟨x0, x1, x2, x3, x4, x5, x6, x7, x8, x9, x10, x11, x12, x13, x14, x15, x16, x17, x18, x19, x20, x21, x22, x23, x24, x25, x26, x27, x28, x29, x30, x31, x32, x33, x34, x35, x36, x37, x38, x39, x40, x41, x42, x43, x44⟩ := hX
  obtain ⟨h0, hc, h1, hn, hh⟩ := hH
  have xr := x31 nx hn
  have xk := xr.2.1
  show G 0 [some (.ref 14), some (.ref 1)] [] (wI B I)
  refine q_aload_n hG rfl rfl ?_
  refine q_getR hG rfl (by assumption) (by assumption) ?_
  refine q_aload_n hG rfl rfl ?_
  refine q_getI0v (v := (nx : Int)) hG rfl (by assumption) (h1) ?_
  refine q_aald hG rfl (by assumption) (by first | exact Or.inl rfl | exact Or.inr rfl) ⟨by omega, by omega, by omega⟩ xr.1 ?_
  refine q_aload_n hG rfl rfl ?_
  refine q_callV6 hG rfl rfl rfl (by assumption) (s_D_copy (b := 16 + 13 * nx) (o := 1) xr.2 hX0.2.2.2.2.2.2.2.2.2.2.1 (by omega) hR.2.2.2.2.2.2.2 (fun J e1 e2 => ?_))
  refine q_vret hG rfl ?_
  exact hp J (hR.copy hn1 e1) e2
theorem s_H_keep {d : Nat} {B : HP} {I : IM} {Post : Out → HP → Prop} (hX : LX B) {c : Int} {nx : Nat} {h : Nat → RW} (hH : HistC I c nx h)  (hp : ∀ J : IM, J 14 1 = (((nx + 1) % 9 : Nat) : Int) → J 14 0 = c8 c → (∀ a, a ≠ 14 → J a = I a) → Post (.inl none) (wI B J)) : Sp (d + 1) k_X3_keep [.ref 14] (wI B I) Post := by
  refine Sp_intro md_X3_keep rfl rfl (fun G hG => ?_)
  have hX0 := hX
  obtain ⟨x0, x1, x2, x3, x4, x5, x6, x7, x8, x9, x10, x11, x12, x13, x14, x15, x16, x17, x18, x19, x20, x21, x22, x23, x24, x25, x26, x27, x28, x29, x30, x31, x32, x33, x34, x35, x36, x37, x38, x39, x40, x41, x42, x43, x44⟩ := hX
  obtain ⟨h0, hc, h1, hn, hh⟩ := hH
  show G 0 [some (.ref 14)] [] (wI B I)
  refine q_aload_n hG rfl rfl ?_
  refine q_aload_n hG rfl rfl ?_
  refine q_getI0v (v := (nx : Int)) hG rfl (by assumption) (h1) ?_
  refine q_iconst (v := 1) hG rfl rfl ?_
  refine q_iadd hG rfl ?_
  refine q_bipush (v := 9) hG rfl rfl ?_
  refine q_icmp_ge hG rfl ⟨by omega, by omega⟩ ⟨by omega, by omega⟩ (fun hc9 => ?_) (fun hc9 => ?_)
  · refine q_iconst (v := 0) hG rfl rfl ?_
    refine q_putI0 hG rfl (by assumption) ?_
    refine q_aload_n hG rfl rfl ?_
    refine q_aload_n hG rfl rfl ?_
    refine q_getI0v (v := c) hG rfl (by assumption) (by rw [st_ne _ _ (by decide)]; exact h0) ?_
    refine q_iconst (v := 1) hG rfl rfl ?_
    refine q_iadd hG rfl ?_
    refine q_bipush (v := 8) hG rfl rfl ?_
    refine q_min hG rfl ⟨by omega, by omega⟩ ⟨by omega, by omega⟩ rfl ?_
    refine q_putI0 hG rfl (by assumption) ?_
    refine q_vret hG rfl ?_
    refine hp _ ?_ ?_ (fun a ha => by rw [st_row _ _ ha, st_row _ _ ha])
    · rw [st_ne _ _ (by decide), st_same]
      omega
    · rw [st_same]
      rfl
  · refine q_aload_n hG rfl rfl ?_
    refine q_getI0v (v := (nx : Int)) hG rfl (by assumption) (h1) ?_
    refine q_iconst (v := 1) hG rfl rfl ?_
    refine q_iadd hG rfl ?_
    refine q_goto hG rfl ?_
    refine q_putI0 hG rfl (by assumption) ?_
    refine q_aload_n hG rfl rfl ?_
    refine q_aload_n hG rfl rfl ?_
    refine q_getI0v (v := c) hG rfl (by assumption) (by rw [st_ne _ _ (by decide)]; exact h0) ?_
    refine q_iconst (v := 1) hG rfl rfl ?_
    refine q_iadd hG rfl ?_
    refine q_bipush (v := 8) hG rfl rfl ?_
    refine q_min hG rfl ⟨by omega, by omega⟩ ⟨by omega, by omega⟩ rfl ?_
    refine q_putI0 hG rfl (by assumption) ?_
    refine q_vret hG rfl ?_
    refine hp _ ?_ ?_ (fun a ha => by rw [st_row _ _ ha, st_row _ _ ha])
    · rw [st_ne _ _ (by decide), st_same]
      omega
    · rw [st_same]
      rfl
