/-! the reference: peace -/
theorem vd_from (n : Int) : vd (fromV n) := fun k hk => by
  rw [bt_from]
  exact decide_eq_false (by omega)
/-- only the row of longs changes -/
def jfr (m : Nat) (Js Ks : Nat → Nat → Int64) : Prop := ∀ a, a ≠ m + 2 → Ks a = Js a
theorem jfr.refl {m : Nat} (Js : Nat → Nat → Int64) : jfr m Js Js := fun _ _ => rfl
theorem jfr.trans {m : Nat} {Js Ks Ls : Nat → Nat → Int64} (h : jfr m Js Ks) (h2 : jfr m Ks Ls) : jfr m Js Ls := fun a q => (h2 a q).trans (h a q)
theorem jfr.up {m : Nat} {Js Ks : Nat → Nat → Int64} (h : jfr m Js Ks) (i : Nat) (v : Int64) : jfr m Js (up2 Ks (m + 2) i v) := fun a q => by
  funext j
  rw [up2_ne (fun z => q z.1), h a q]
theorem gfr.j {m lev : Nat} {Js Ks : Nat → Nat → Int64} (h : gfr m lev Js Ks) : jfr m Js Ks := fun a q => funext (fun j => h a j (fun z => q z.1))
/-- the first domains -/
def opD (R : RW) : DM := fun k => fromV (R (5 + 4 * k + 2)) &&& tillV (R (5 + 4 * k + 3))
theorem opD_vd (R : RW) (k : Nat) : vd (opD R k) := vd_and (vd_from _)
def slR (R : RW) (p : Nat → Nat) : Prop := solD (cnR R) (R 1).toNat (R 0).toNat (opD R) p
theorem opD_bt {q : Int} {R : RW} (hW : WfR q R) {k : Nat} (hk : k < 6) (j : Nat) : bt (opD R k) j = true ↔ R (5 + 4 * k + 2) ≤ j ∧ (j : Int) ≤ R (5 + 4 * k + 3) := by
  obtain ⟨-, -, -, -, -, wd, -⟩ := hW
  have d := (wd k hk).1
  unfold opD
  rw [bt_and, Bool.and_eq_true, bt_from, bt_till, decide_eq_true_iff, decide_eq_true_iff]
  omega
theorem opD_ne {q : Int} {R : RW} (hW : WfR q R) {k : Nat} (hk : k < 6) : opD R k ≠ 0 := fun z => by
  obtain ⟨-, -, -, -, -, wd, -⟩ := id hW
  have d := (wd k hk).1
  have a := (opD_bt hW hk (R (5 + 4 * k + 2)).toNat).mpr ⟨by omega, by omega⟩
  rw [z, bt_zero] at a
  exact absurd a (by decide)
/-- the heights of all doors, and of those that aren't there -/
def hgt (R : RW) (p : Nat → Nat) : Nat → Int := fun k => if k < (R 0).toNat then (p k : Int) else R (5 + 4 * k + 2)
theorem sl_pe {q : Int} {R : RW} (hW : WfR q R) {p : Nat → Nat} (h : slR R p) : peS R (ptR R) (hgt R p) := by
  have hW0 := hW
  obtain ⟨w0, w1, -, -, -, wd, wc⟩ := hW
  refine ⟨fun k hk => ?_, fun i hi => ?_⟩
  · show R (5 + 4 * k + 2) ≤ hgt R p k ∧ hgt R p k ≤ R (5 + 4 * k + 3)
    have d := (wd k hk).1
    unfold hgt
    by_cases e : k < (R 0).toNat
    · rw [if_pos e]
      exact (opD_bt hW0 hk _).mp (h.1 k e)
    · rw [if_neg e]; omega
  · obtain ⟨-, -, v3, v4, -⟩ := wc i (by omega)
    have a := h.2 i hi
    have f1 : (cnR R i).2.1 < (R 0).toNat := by show (R (29 + 5 * i + 2)).toNat < _; omega
    have s1 : (cnR R i).2.2.1 < (R 0).toNat := by show (R (29 + 5 * i + 3)).toNat < _; omega
    unfold fulM hgt
    rw [if_pos f1, if_pos s1]
    exact a
theorem pe_sl {q : Int} {R : RW} (hW : WfR q R) {b : Nat → Int} (h : peS R (ptR R) b) : slR R (fun k => (b k).toNat) ∧ ∀ k, k < 6 → 0 ≤ b k ∧ b k ≤ 40 := by
  have hW0 := hW
  obtain ⟨w0, w1, -, -, -, wd, wc⟩ := hW
  have hb : ∀ k, k < 6 → R (5 + 4 * k + 2) ≤ b k ∧ b k ≤ R (5 + 4 * k + 3) := h.1
  have hb2 : ∀ k, k < 6 → 0 ≤ b k ∧ b k ≤ 40 := fun k hk => by
    have d := (wd k hk).1
    have := hb k hk
    omega
  refine ⟨⟨fun k hk => ?_, fun i hi => ?_⟩, hb2⟩
  · have a := hb k (by omega)
    have a2 := hb2 k (by omega)
    refine (opD_bt hW0 (by omega) _).mpr ⟨?_, ?_⟩
    · show R (5 + 4 * k + 2) ≤ ((b k).toNat : Int); omega
    · show ((b k).toNat : Int) ≤ R (5 + 4 * k + 3); omega
  · obtain ⟨-, -, v3, v4, -⟩ := wc i (by omega)
    have a := h.2 i hi
    have f1 := hb2 (cnR R i).2.1 (by show (R (29 + 5 * i + 2)).toNat < _; omega)
    have s1 := hb2 (cnR R i).2.2.1 (by show (R (29 + 5 * i + 3)).toNat < _; omega)
    show okE _ _ (((b (cnR R i).2.1).toNat : Nat) : Int) (((b (cnR R i).2.2.1).toNat : Nat) : Int)
    rw [Int.toNat_of_nonneg f1.1, Int.toNat_of_nonneg s1.1]
    exact a
theorem ex_pe {q : Int} {R : RW} (hW : WfR q R) : (∃ p, slR R p) ↔ ∃ b, peS R (ptR R) b := ⟨fun ⟨p, h⟩ => ⟨_, sl_pe hW h⟩, fun ⟨_, h⟩ => ⟨_, (pe_sl hW h).1⟩⟩
theorem pe_none0 {q : Int} {R : RW} (hW : WfR q R) (h : (R 0).toNat = 0) : ∃ p, slR R p := by
  obtain ⟨w0, w1, -, -, -, wd, wc⟩ := hW
  refine ⟨fun _ => 0, fun k hk => by omega, fun i hi => ?_⟩
  obtain ⟨-, -, v3, -⟩ := wc i (by omega)
  omega
/-- domains that agree with the first ones -/
theorem sl_dom {R : RW} {D : DM} (h : ∀ k, k < (R 0).toNat → D k = opD R k) (p : Nat → Nat) : solD (cnR R) (R 1).toNat (R 0).toNat D p ↔ slR R p := ⟨solD_cg h, solD_cg (fun k hk => (h k hk).symm)⟩
/-- the first peace, door by door -/
def mkI (R : RW) (m x : Nat) (Ls : Nat → Nat → Int64) (hh : Nat → Nat) : Prop := vdD (domJ Ls m 0) ∧ (∀ p, solD (cnR R) (R 1).toNat (R 0).toNat (domJ Ls m 0) p ↔ slR R p ∧ ∀ j, j < x → p j = hh j) ∧ (∃ p, slR R p ∧ ∀ j, j < x → p j = hh j) ∧ (∀ e, e < x → ∀ p, slR R p → (∀ j, j < e → p j = hh j) → hh e ≤ p e) ∧ ∀ k, k < x → hh k ≤ 40 ∧ ∀ j, bt (domJ Ls m 0 k) j = true ↔ j = hh k
theorem mkI.ne {R : RW} {m x : Nat} {Ls : Nat → Nat → Int64} {hh : Nat → Nat} (h : mkI R m x Ls hh) : ∀ k, k < (R 0).toNat → domJ Ls m 0 k ≠ 0 := fun k hk z => by
  obtain ⟨-, b, ⟨p, c⟩, -⟩ := h
  have a := ((b p).mpr c).1 k hk
  rw [z, bt_zero] at a
  exact absurd a (by decide)
theorem mkI.start {R : RW} {m : Nat} {Ls : Nat → Nat → Int64} (hv : vdD (domJ Ls m 0)) (h : ∀ k, k < (R 0).toNat → domJ Ls m 0 k = opD R k) (he : ∃ p, slR R p) (hh : Nat → Nat) : mkI R m 0 Ls hh := by
  obtain ⟨p, hp⟩ := he
  exact ⟨hv, fun p => ⟨fun q => ⟨(sl_dom h p).mp q, fun j hj => by omega⟩, fun q => (sl_dom h p).mpr q.1⟩, ⟨p, hp, fun j hj => by omega⟩, fun e he => by omega, fun k hk => by omega⟩
theorem mkI.mv {R : RW} {m x : Nat} {Ls Ms : Nat → Nat → Int64} {hh : Nat → Nat} (hd : (R 0).toNat ≤ 6) (hx : x ≤ (R 0).toNat) (h : mkI R m x Ls hh) (g : gfr m 1 Ls Ms) : mkI R m x Ms hh := by
  have e : ∀ k, k < 6 → domJ Ms m 0 k = domJ Ls m 0 k := fun k hk => gfr.dom (lev := 0) g hk
  obtain ⟨a, b, c, d, f⟩ := h
  refine ⟨fun k hk => by rw [e k hk]; exact a k hk, fun p => ?_, c, d, fun k hk => by rw [e k (by omega)]; exact f k hk⟩
  rw [← b p]
  exact ⟨solD_cg (fun k hk => e k (by omega)), solD_cg (fun k hk => (e k (by omega)).symm)⟩
theorem mkI.step {R : RW} {m x : Nat} {Ls : Nat → Nat → Int64} {hh : Nat → Nat} {h : Nat} (hx : x < (R 0).toNat) (hd : (R 0).toNat ≤ 6) (hi : mkI R m x Ls hh) (hlo : ∀ p, slR R p → (∀ j, j < x → p j = hh j) → h ≤ p x) (hex : ∃ p, slR R p ∧ (∀ j, j < x → p j = hh j) ∧ p x = h) (h40 : h ≤ 40) : mkI R m (x + 1) (up2 Ls (m + 2) (x : Int).toNat (1 <<< shA (h : Int))) (fun j => if j = x then h else hh j) := by
  have eD : domJ (up2 Ls (m + 2) (x : Int).toNat (1 <<< shA (h : Int))) m 0 = updD (domJ Ls m 0) x (1 <<< shA (h : Int)) := dom_up (by omega)
  have eb : ∀ j, bt (1 <<< shA (h : Int)) j = true ↔ j = h := fun j => by
    rw [bt_bit ⟨by omega, by omega⟩, decide_eq_true_iff]
    omega
  have eh : ∀ (p : Nat → Nat) (n : Nat), n ≤ x → ((∀ j, j < n → p j = (if j = x then h else hh j)) ↔ ∀ j, j < n → p j = hh j) := fun p n hn => ⟨fun q j hj => by have := q j hj; rw [if_neg (by omega)] at this; exact this, fun q j hj => by rw [if_neg (by omega)]; exact q j hj⟩
  have es : ∀ p : Nat → Nat, (∀ j, j < x + 1 → p j = (if j = x then h else hh j)) ↔ (∀ j, j < x → p j = hh j) ∧ p x = h := fun p => by
    refine ⟨fun q => ⟨(eh p x (Nat.le_refl _)).mp (fun j hj => q j (by omega)), by have := q x (by omega); rw [if_pos rfl] at this; exact this⟩, fun q j hj => ?_⟩
    by_cases e : j = x
    · rw [if_pos e, e]; exact q.2
    · rw [if_neg e]; exact q.1 j (by omega)
  obtain ⟨a, b, c, d, f⟩ := hi
  refine ⟨?_, fun p => ?_, ?_, fun e he p hp hj => ?_, fun k hk => ?_⟩
  · rw [eD]
    exact vdD_up a (fun j hj => by
      cases z : bt (1 <<< shA (h : Int)) j
      · rfl
      · have := (eb j).mp z; omega)
  · rw [eD, es p, ← and_assoc, ← b p]
    refine ⟨fun q => ?_, fun q => ⟨fun k hk => ?_, q.1.2⟩⟩
    · have qx : p x = h := (eb _).mp (by have := q.1 x hx; rw [updD_same] at this; exact this)
      refine ⟨⟨fun k hk => ?_, q.2⟩, qx⟩
      by_cases e : k = x
      · obtain ⟨p2, p3, p4, p5⟩ := hex
        have := ((b p2).mpr ⟨p3, p4⟩).1 x hx
        rw [e, qx, ← p5]
        exact this
      · have := q.1 k hk
        rw [updD_ne _ _ e] at this
        exact this
    · by_cases e : k = x
      · rw [e, updD_same, q.2]
        exact (eb _).mpr rfl
      · rw [updD_ne _ _ e]
        exact q.1.1 k hk
  · obtain ⟨p2, p3, p4, p5⟩ := hex
    exact ⟨p2, p3, (es p2).mpr ⟨p4, p5⟩⟩
  · have hj2 := (eh p e (by omega)).mp hj
    show (if e = x then h else hh e) ≤ p e
    by_cases z : e = x
    · rw [if_pos z, z]
      rw [z] at hj2
      exact hlo p hp hj2
    · rw [if_neg z]
      exact d e (by omega) p hp hj2
  · rw [eD]
    show (if k = x then h else hh k) ≤ 40 ∧ ∀ j, bt (updD (domJ Ls m 0) x (1 <<< shA (h : Int)) k) j = true ↔ j = (if k = x then h else hh k)
    by_cases z : k = x
    · rw [if_pos z, z, updD_same]
      exact ⟨h40, eb⟩
    · rw [if_neg z, updD_ne _ _ z]
      exact f k (by omega)
theorem mkI.fp {q : Int} {R : RW} (hW : WfR q R) {m : Nat} {Ls : Nat → Nat → Int64} {hh : Nat → Nat} (hi : mkI R m (R 0).toNat Ls hh) : fpR R (hgt R hh) := by
  obtain ⟨a, b, ⟨p, c1, c2⟩, d, f⟩ := hi
  have e1 : hgt R p = hgt R hh := funext (fun k => by
    unfold hgt
    by_cases e : k < (R 0).toNat
    · rw [if_pos e, if_pos e, c2 k e]
    · rw [if_neg e, if_neg e])
  refine ⟨by rw [← e1]; exact sl_pe hW c1, fun b hb hl => ?_⟩
  obtain ⟨k, k1, k2, k3⟩ := hl
  obtain ⟨w0, -⟩ := id hW
  obtain ⟨s1, s2⟩ := pe_sl hW hb
  have g := d k k1 (fun k => (b k).toNat) s1 (fun j hj => by
    have := k3 j hj
    unfold hgt at this
    rw [if_pos (by omega)] at this
    show (b j).toNat = hh j
    omega)
  have g : hh k ≤ (b k).toNat := g
  unfold hgt at k2
  rw [if_pos k1] at k2
  have := s2 k (by omega)
  omega

theorem s_R_opens {d : Nat} {B : HP} {I : IM} {Post : Out → HP → Prop} {m : Nat} (hm : oM B m) {R : RW} (hR0 : ∀ j, j < 79 → I (m + 1) j = R j) {q : Int} (hW : WfR q R) {Js : Nat → Nat → Int64} (hv : vdD (domJ Js m 0))  (hp : ∀ Ks, jfr m Js Ks → vdD (domJ Ks m 0) → (∀ k, k < (R 0).toNat → domJ Ks m 0 k = opD R k) → Post (.inl none) (wI (wL B Ks) I)) : Sp (d + 2) k_X9_opens [.ref m] (wI (wL B Js) I) Post := by
  refine Sp_intro md_X9_opens rfl rfl (fun G hG => ?_)
  have hm0 := hm
  obtain ⟨n1, n2, n3, n4, n5, n6, n7, n8, n9, n10, n11⟩ := hm
  have hmL : ∀ Js, oM (wL B Js) m := fun _ => hm0
  have hW0 := hW
  obtain ⟨w0, w1, w2, w3, w4, wd, wc⟩ := hW
  have hd0 : (R 0).toNat ≤ 6 := by omega
  have lp : ∀ (mz : Nat) (k : Nat) (Ks : Nat → Nat → Int64), (R 0).toNat - k = mz → k ≤ (R 0).toNat → jfr m Js Ks → vdD (domJ Ks m 0) → (∀ j, j < k → domJ Ks m 0 j = opD R j) → G 2 [some (.ref m), some (.int (i3 (k : Int)))] [] (wI (wL B Ks) I) := by
    intro mz
    induction mz using Nat.strongRecOn with
    | ind mz ih =>
      intro k Ks hme hk hj hvd hdn
      refine q_iload_n hG rfl rfl ?_
      refine q_aload_n hG rfl rfl ?_
      refine q_getR hG rfl (by assumption) (by assumption) ?_
      refine q_iconst (v := 0) hG rfl rfl ?_
      refine q_ialdv (v := R 0) hG rfl (by assumption) ⟨by omega, by omega, by omega⟩ (hR0 0 (by omega)) ?_
      refine q_icmp_ge hG rfl ⟨by omega, by omega⟩ ⟨by omega, by omega⟩ (fun hc9 => ?_) (fun hc9 => ?_)
      · refine q_vret hG rfl ?_
        exact hp Ks hj hvd (fun j hj => hdn j (by omega))
      · have hwd := (wd k (by omega)).1
        refine q_aload_n hG rfl rfl ?_
        refine q_getR hG rfl (by assumption) (by assumption) ?_
        refine q_iload_n hG rfl rfl ?_
        refine q_aload_n hG rfl rfl ?_
        refine q_iload_n hG rfl rfl ?_
        refine q_iconst (v := 2) hG rfl rfl ?_
        refine q_callV6 hG rfl rfl rfl (by assumption) (s_R_dN (x := k) (w := 2) (hmL _) (by omega) (by decide) ?_)
        rw [show dR I m k 2 = R (5 + 4 * k + 2) from hR0 _ (by omega)]
        refine q_callS0 hG rfl rfl rfl (s_R_from ⟨by omega, by omega⟩ ?_)
        refine q_aload_n hG rfl rfl ?_
        refine q_iload_n hG rfl rfl ?_
        refine q_iconst (v := 3) hG rfl rfl ?_
        refine q_callV6 hG rfl rfl rfl (by assumption) (s_R_dN (x := k) (w := 3) (hmL _) (by omega) (by decide) ?_)
        rw [show dR I m k 3 = R (5 + 4 * k + 3) from hR0 _ (by omega)]
        refine q_callS0 hG rfl rfl rfl (s_R_till ⟨by omega, by omega⟩ ?_)
        refine q_land hG rfl ?_
        refine q_lastL hG rfl (by assumption) ⟨by omega, by omega, by omega⟩ ?_
        refine q_iinc (c := 1) hG rfl rfl rfl rfl ?_
        refine q_goto hG rfl ?_
        have eD : domJ (up2 Ks (m + 2) (k : Int).toNat (opD R k)) m 0 = updD (domJ Ks m 0) k (opD R k) := dom_up (by omega)
        refine ih _ (by omega) (k + 1) (up2 Ks (m + 2) (k : Int).toNat (opD R k)) rfl (by omega) (hj.up _ _) ?_ (fun j hj => ?_)
        · rw [eD]
          exact vdD_up hvd (opD_vd R k)
        · rw [eD]
          unfold updD
          split
          · rename_i e; rw [e]
          · exact hdn j (by omega)
  show G 0 [some (.ref m), none] [] (wI (wL B Js) I)
  refine q_iconst (v := 0) hG rfl rfl ?_
  refine q_istore_n hG rfl rfl ?_
  exact lp _ 0 Js rfl (by omega) (jfr.refl Js) hv (fun j hj => by omega)
def opd (R : RW) (m : Nat) (Ks : Nat → Nat → Int64) : Prop := ∀ k, k < (R 0).toNat → domJ Ks m 0 k = opD R k
theorem opd.mv {R : RW} {m : Nat} {Ks Ls : Nat → Nat → Int64} (hd : (R 0).toNat ≤ 6) (h : opd R m Ks) (g : gfr m 1 Ks Ls) : opd R m Ls := fun k hk => (gfr.dom (lev := 0) g (by omega)).trans (h k hk)
theorem vdD.mv {m : Nat} {Ks Ls : Nat → Nat → Int64} (h : vdD (domJ Ks m 0)) (g : gfr m 1 Ks Ls) : vdD (domJ Ls m 0) := fun k hk => by
  rw [show domJ Ls m 0 k = domJ Ks m 0 k from gfr.dom (lev := 0) g hk]
  exact h k hk
theorem s_R_hasPeace {d : Nat} {B : HP} {I : IM} {Post : Out → HP → Prop} {m : Nat} (hm : oM B m) {R : RW} (hR0 : ∀ j, j < 79 → I (m + 1) j = R j) {q : Int} (hW : WfR q R) {Js : Nat → Nat → Int64} (hv : vdD (domJ Js m 0))  (p1 : ∀ Ks, jfr m Js Ks → vdD (domJ Ks m 0) → opd R m Ks → (∃ p, slR R p) → Post (.inl (some (.int (i3 1)))) (wI (wL B Ks) (st I m 0 0))) (p0 : ∀ Ks, jfr m Js Ks → vdD (domJ Ks m 0) → (∀ b, ¬ peS R (ptR R) b) → Post (.inl (some (.int (i3 0)))) (wI (wL B Ks) (st I m 0 0))) : Sp (d + 18) k_X9_hasPeace [.ref m] (wI (wL B Js) I) Post := by
  refine Sp_intro md_X9_hasPeace rfl rfl (fun G hG => ?_)
  have hm0 := hm
  obtain ⟨n1, n2, n3, n4, n5, n6, n7, n8, n9, n10, n11⟩ := hm
  have hmL : ∀ Js, oM (wL B Js) m := fun _ => hm0
  have hW0 := hW
  obtain ⟨w0, w1, w2, w3, w4, wd, wc⟩ := hW
  have hd0 : (R 0).toNat ≤ 6 := by omega
  have hRs : ∀ z : Int, ∀ j, j < 79 → st I m 0 z (m + 1) j = R j := fun z j hj => by rw [st_row _ _ (by omega)]; exact hR0 j hj
  have hS : solP B (st I m 0 0) R m (0 + 1) 16 := s_R_solv hm0 (hRs 0) hW0 6 1 rfl
  show G 0 [some (.ref m)] [] (wI (wL B Js) I)
  refine q_aload_n hG rfl rfl ?_
  refine q_iconst (v := 0) hG rfl rfl ?_
  refine q_putI0 hG rfl (by assumption) ?_
  refine q_aload_n hG rfl rfl ?_
  refine q_callV6 hG rfl rfl rfl (by assumption) (s_R_opens (I := (st I m 0 0)) hm0 (hRs 0) hW0 hv (fun Ks j1 j2 j3 => ?_))
  have hz9 := opn_bd (updD (domJ Ks m 0) 0 (domJ Ks m 0 0 &&& Int64.ofInt (-1))) (R 0).toNat
  have hsl : ∀ p, 0 < (R 0).toNat → (solD (cnR R) (R 1).toNat (R 0).toNat (updD (domJ Ks m 0) 0 (domJ Ks m 0 0 &&& Int64.ofInt (-1))) p ↔ slR R p) := fun p h0 => by
    rw [solD_and h0, sl_dom j3]
    refine ⟨fun z => z.1, fun z => ⟨z, ?_⟩⟩
    have a := vd_le (opD_vd R 0) (z.1 0 h0)
    rw [bt_m1]
    exact decide_eq_true (by omega)
  refine q_aload_n hG rfl rfl ?_
  refine q_iconst (v := 0) hG rfl rfl ?_
  refine q_iconst (v := 0) hG rfl rfl ?_
  refine q_ldc2n hG rfl ?_
  refine q_callV6 hG rfl rfl rfl (by assumption) (s_R_solvW (n := 16) (x := 0) (lev := 0) (v := Int64.ofInt (-1)) hm0 hd0 (by omega) (by omega) j2 hS (fun k hk _ => by rw [j3 k hk]; exact opD_ne hW0 (by omega)) (by omega) (fun Ls g1 g2 => ?_) (fun Ls g1 g2 => ?_))
  · refine q_if_ne hG rfl ⟨by omega, by omega⟩ (fun _ => ?_) (fun q => absurd (by decide) q)
    refine q_iconst (v := 1) hG rfl rfl ?_
    refine q_goto hG rfl ?_
    refine q_iret5 hG rfl rfl (by decide) ?_
    refine p1 Ls (j1.trans g1.j) (j2.mv g1) (opd.mv hd0 j3 g1) ?_
    by_cases h0 : 0 < (R 0).toNat
    · obtain ⟨p, hp⟩ := g2
      exact ⟨p, (hsl p h0).mp hp⟩
    · exact pe_none0 hW0 (by omega)
  · refine q_if_ne hG rfl ⟨by omega, by omega⟩ (fun q => absurd q (by decide)) (fun _ => ?_)
    refine q_aload_n hG rfl rfl ?_
    refine q_getR hG rfl (by assumption) (by assumption) ?_
    refine q_iconst (v := 0) hG rfl rfl ?_
    refine q_ialdv (v := R 0) hG rfl (by assumption) ⟨by omega, by omega, by omega⟩ (hRs 0 0 (by omega)) ?_
    refine q_if_ne hG rfl ⟨by omega, by omega⟩ (fun hc27 => ?_) (fun hc27 => ?_)
    · refine q_iconst (v := 0) hG rfl rfl ?_
      refine q_iret5 hG rfl rfl (by decide) ?_
      refine p0 Ls (j1.trans g1.j) (j2.mv g1) (fun b hb => ?_)
      have h0 : 0 < (R 0).toNat := by omega
      obtain ⟨p, hp⟩ := (ex_pe hW0).mpr ⟨b, hb⟩
      exact g2 h0 p ((hsl p h0).mpr hp)
    · refine q_iconst (v := 1) hG rfl rfl ?_
      refine q_goto hG rfl ?_
      refine q_iret5 hG rfl rfl (by decide) ?_
      exact p1 Ls (j1.trans g1.j) (j2.mv g1) (opd.mv hd0 j3 g1) (pe_none0 hW0 (by omega))
theorem s_R_makesPeace {d : Nat} {B : HP} {I : IM} {Post : Out → HP → Prop} {m : Nat} (hm : oM B m) {R : RW} (hR0 : ∀ j, j < 79 → I (m + 1) j = R j) {q : Int} (hW : WfR q R) {Js : Nat → Nat → Int64} (hv : vdD (domJ Js m 0))  (p1 : ∀ Ls hh, jfr m Js Ls → vdD (domJ Ls m 0) → (∀ k, k < (R 0).toNat → hh k ≤ 40 ∧ ∀ j, bt (domJ Ls m 0 k) j = true ↔ j = hh k) → fpR R (hgt R hh) → Post (.inl (some (.int (i3 1)))) (wI (wL B Ls) (st I m 0 0))) (p0 : ∀ Ks, jfr m Js Ks → vdD (domJ Ks m 0) → (∀ b, ¬ peS R (ptR R) b) → Post (.inl (some (.int (i3 0)))) (wI (wL B Ks) (st I m 0 0))) : Sp (d + 19) k_X9_makesPeace [.ref m] (wI (wL B Js) I) Post := by
  refine Sp_intro md_X9_makesPeace rfl rfl (fun G hG => ?_)
  have hm0 := hm
  obtain ⟨n1, n2, n3, n4, n5, n6, n7, n8, n9, n10, n11⟩ := hm
  have hmL : ∀ Js, oM (wL B Js) m := fun _ => hm0
  have hW0 := hW
  obtain ⟨w0, w1, w2, w3, w4, wd, wc⟩ := hW
  have hd0 : (R 0).toNat ≤ 6 := by omega
  have hRs : ∀ z : Int, ∀ j, j < 79 → st I m 0 z (m + 1) j = R j := fun z j hj => by rw [st_row _ _ (by omega)]; exact hR0 j hj
  have hS : solP B (st I m 0 0) R m (0 + 1) 16 := s_R_solv hm0 (hRs 0) hW0 6 1 rfl
  have lq : ∀ (mz : Nat) (x : Nat) (h : Nat) (Ls : Nat → Nat → Int64) (hh : Nat → Nat), 41 - h = mz → x < (R 0).toNat → jfr m Js Ls → mkI R m x Ls hh → (∀ p, slR R p → (∀ j, j < x → p j = hh j) → h ≤ p x) → (∀ (Ls2 : Nat → Nat → Int64) (hh2 : Nat → Nat) (v2 : Option Value), jfr m Js Ls2 → mkI R m (x + 1) Ls2 hh2 → G 11 [some (.ref m), some (.int (i3 ((x : Int) + 1))), v2] [] (wI (wL B Ls2) (st I m 0 0))) → G 28 [some (.ref m), some (.int (i3 (x : Int))), some (.int (i3 (h : Int)))] [] (wI (wL B Ls) (st I m 0 0)) := by
    intro mz
    induction mz using Nat.strongRecOn with
    | ind mz ih =>
      intro x h Ls hh hme hx hj hi hlo hEx
      have h40 : h ≤ 40 := by
        obtain ⟨p, p1, p2⟩ := hi.2.2.1
        have a := hlo p p1 p2
        have b := vd_le (opD_vd R x) (p1.1 x hx)
        omega
      have hz9 := opn_bd (updD (domJ Ls m 0) x (domJ Ls m 0 x &&& (1 <<< shA (h : Int)))) (R 0).toNat
      have hsl : ∀ p, solD (cnR R) (R 1).toNat (R 0).toNat (updD (domJ Ls m 0) x (domJ Ls m 0 x &&& (1 <<< shA (h : Int)))) p ↔ (slR R p ∧ ∀ j, j < x → p j = hh j) ∧ p x = h := fun p => by
        rw [solD_and hx, hi.2.1 p, bt_bit ⟨by omega, by omega⟩, decide_eq_true_iff]
        exact ⟨fun z => ⟨z.1, by omega⟩, fun z => ⟨z.1, by omega⟩⟩
      refine q_aload_n hG rfl rfl ?_
      refine q_iconst (v := 0) hG rfl rfl ?_
      refine q_iload_n hG rfl rfl ?_
      refine q_lconst1 hG rfl ?_
      refine q_iload_n hG rfl rfl ?_
      refine q_lshl hG rfl ?_
      refine q_callV6 hG rfl rfl rfl (by assumption) (s_R_solvW (n := 16) (x := x) (v := 1 <<< shA (h : Int)) (lev := 0) hm0 hd0 (by omega) (by omega) hi.1 hS (fun k hk _ => hi.ne k hk) (by omega) (fun Ls2 g1 g2 => ?_) (fun Ls2 g1 g2 => ?_))
      · refine q_if_ne hG rfl ⟨by omega, by omega⟩ (fun _ => ?_) (fun q => absurd (by decide) q)
        refine q_aload_n hG rfl rfl ?_
        refine q_getR hG rfl (by assumption) (by assumption) ?_
        refine q_iload_n hG rfl rfl ?_
        refine q_lconst1 hG rfl ?_
        refine q_iload_n hG rfl rfl ?_
        refine q_lshl hG rfl ?_
        refine q_lastL hG rfl (by assumption) ⟨by omega, by omega, by omega⟩ ?_
        refine q_iinc (c := 1) hG rfl rfl rfl rfl ?_
        refine q_goto hG rfl ?_
        obtain ⟨p, hp⟩ := g2
        have hp2 := (hsl p).mp hp
        exact hEx _ _ _ ((hj.trans g1.j).up _ _) ((hi.mv hd0 (by omega) g1).step hx hd0 hlo ⟨p, hp2.1.1, hp2.1.2, hp2.2⟩ h40)
      · refine q_if_ne hG rfl ⟨by omega, by omega⟩ (fun q => absurd q (by decide)) (fun _ => ?_)
        refine q_iinc (c := 1) hG rfl rfl rfl rfl ?_
        refine q_goto hG rfl ?_
        refine ih _ (by omega) x (h + 1) Ls2 hh rfl hx (hj.trans g1.j) (hi.mv hd0 (by omega) g1) (fun p a b => ?_) hEx
        have c := hlo p a b
        have e : p x ≠ h := fun z => g2 hx p ((hsl p).mpr ⟨⟨a, b⟩, z⟩)
        omega
  have lp : ∀ (mz : Nat) (x : Nat) (Ls : Nat → Nat → Int64) (hh : Nat → Nat) (v2 : Option Value), (R 0).toNat - x = mz → x ≤ (R 0).toNat → jfr m Js Ls → mkI R m x Ls hh → G 11 [some (.ref m), some (.int (i3 (x : Int))), v2] [] (wI (wL B Ls) (st I m 0 0)) := by
    intro mz
    induction mz using Nat.strongRecOn with
    | ind mz ih =>
      intro x Ls hh v2 hme hx hj hi
      refine q_iload_n hG rfl rfl ?_
      refine q_aload_n hG rfl rfl ?_
      refine q_getR hG rfl (by assumption) (by assumption) ?_
      refine q_iconst (v := 0) hG rfl rfl ?_
      refine q_ialdv (v := R 0) hG rfl (by assumption) ⟨by omega, by omega, by omega⟩ (hRs 0 0 (by omega)) ?_
      refine q_icmp_ge hG rfl ⟨by omega, by omega⟩ ⟨by omega, by omega⟩ (fun hc18 => ?_) (fun hc18 => ?_)
      · refine q_iconst (v := 1) hG rfl rfl ?_
        refine q_iret5 hG rfl rfl (by decide) ?_
        have ex : x = (R 0).toNat := by omega
        rw [ex] at hi
        exact p1 Ls hh hj hi.1 hi.2.2.2.2 (hi.fp hW0)
      · refine q_aload_n hG rfl rfl ?_
        refine q_iload_n hG rfl rfl ?_
        refine q_iconst (v := 2) hG rfl rfl ?_
        refine q_callV6 hG rfl rfl rfl (by assumption) (s_R_dN (I := (st I m 0 0)) (x := x) (w := 2) (hmL _) (by omega) (by decide) ?_)
        rw [show dR (st I m 0 0) m x 2 = R (5 + 4 * x + 2) from hRs 0 _ (by omega)]
        refine q_istore_n hG rfl rfl ?_
        obtain ⟨ln, hln⟩ : ∃ ln : Nat, R (5 + 4 * x + 2) = (ln : Int) := ⟨(R (5 + 4 * x + 2)).toNat, by have := (wd x (by omega)).1; omega⟩
        rw [hln]
        refine lq _ x ln Ls hh rfl (by omega) hj hi (fun p a b => ?_) (fun Ls2 hh2 w2 a b => ih _ (by omega) (x + 1) Ls2 hh2 w2 rfl (by omega) a b)
        have := ((opD_bt hW0 (by omega) _).mp (a.1 x (by omega))).1
        omega
  show G 0 [some (.ref m), none, none] [] (wI (wL B Js) I)
  refine q_aload_n hG rfl rfl ?_
  refine q_callV6 hG rfl rfl rfl (by assumption) (s_R_hasPeace hm0 hR0 hW0 hv (fun Ks j1 j2 j3 j4 => ?_) (fun Ks j1 j2 j3 => ?_))
  · refine q_if_ne hG rfl ⟨by omega, by omega⟩ (fun _ => ?_) (fun q => absurd (by decide) q)
    refine q_iconst (v := 0) hG rfl rfl ?_
    refine q_istore_n hG rfl rfl ?_
    exact lp _ 0 Ks (fun _ => 0) none rfl (by omega) j1 (mkI.start j2 j3 j4 _)
  · refine q_if_ne hG rfl ⟨by omega, by omega⟩ (fun q => absurd q (by decide)) (fun _ => ?_)
    refine q_iconst (v := 0) hG rfl rfl ?_
    refine q_iret5 hG rfl rfl (by decide) ?_
    exact p0 Ks j1 j2 j3
