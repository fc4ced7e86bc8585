/-! the reference: solvable domains -/
theorem sm01_two {f : Nat → Bool} {j k : Nat} (hjk : j < k) (hj : f j = true) (hk : f k = true) : ∀ n : Nat, (j < n → 1 ≤ sm (fun i => if f i then (1 : Int) else 0) n) ∧ (k < n → 2 ≤ sm (fun i => if f i then (1 : Int) else 0) n) ∧ 0 ≤ sm (fun i => if f i then (1 : Int) else 0) n
  | 0 => ⟨fun h => by omega, fun h => by omega, Int.le_refl _⟩
  | n + 1 => by
    obtain ⟨a, b, c⟩ := sm01_two hjk hj hk n
    show (j < n + 1 → 1 ≤ sm (fun i => if f i then (1 : Int) else 0) n + (if f n = true then (1 : Int) else 0)) ∧ (k < n + 1 → 2 ≤ sm (fun i => if f i then (1 : Int) else 0) n + (if f n = true then (1 : Int) else 0)) ∧ 0 ≤ sm (fun i => if f i then (1 : Int) else 0) n + (if f n = true then (1 : Int) else 0)
    have z : 0 ≤ (if f n = true then (1 : Int) else 0) := by split <;> omega
    refine ⟨fun h => ?_, fun h => ?_, by omega⟩
    · by_cases e : j = n
      · rw [← e, if_pos hj]; rw [← e] at c; omega
      · have := a (by omega); omega
    · by_cases e : k = n
      · rw [← e, if_pos hk]; rw [← e] at a; have := a hjk; omega
      · have := b (by omega); omega
theorem szV_one {v : Int64} (h : szV v ≤ 1) {j k : Nat} (hj : j ≤ 40) (hk : k ≤ 40) (bj : bt v j = true) (bk : bt v k = true) : j = k := by
  unfold szV at h
  by_cases e : j < k
  · have := (sm01_two e bj bk 41).2.1 (by omega); omega
  · by_cases e2 : k < j
    · have := (sm01_two e2 bk bj 41).2.1 (by omega); omega
    · omega
theorem szV_bd (v : Int64) : 0 ≤ szV v ∧ szV v ≤ 41 := by
  have s := sm_bd (f := fun j => if bt v j then (1 : Int) else 0) (a := 0) (b := 1) 41 (fun j _ => by
      show 0 ≤ (if bt v j = true then (1 : Int) else 0) ∧ (if bt v j = true then (1 : Int) else 0) ≤ 1
      split <;> omega)
  unfold szV
  omega
theorem sm_le {f g : Nat → Int} : ∀ n : Nat, (∀ k, k < n → f k ≤ g k) → sm f n ≤ sm g n
  | 0, _ => Int.le_refl _
  | n + 1, h => by
    have a := sm_le n (fun k hk => h k (by omega))
    have b := h n (by omega)
    show sm f n + f n ≤ sm g n + g n
    omega
theorem szV_le {u v : Int64} (h : ∀ j, bt u j = true → bt v j = true) : szV u ≤ szV v := sm_le 41 (fun k _ => by
  show (if bt u k = true then (1 : Int) else 0) ≤ (if bt v k = true then (1 : Int) else 0)
  by_cases e : bt u k = true
  · rw [if_pos e, if_pos (h k e)]; omega
  · rw [if_neg e]; split <;> omega)
theorem szV_bit {v : Int64} {h : Nat} (hv : ∀ j, bt v j = true → j = h) : szV v ≤ 1 := by
  have q : ∀ n : Nat, sm (fun i => if bt v i then (1 : Int) else 0) n ≤ if h < n then 1 else 0 := fun n => by
    induction n with
    | zero => exact Int.le_refl _
    | succ n ih =>
      show sm (fun i => if bt v i then (1 : Int) else 0) n + (if bt v n = true then (1 : Int) else 0) ≤ _
      by_cases e : bt v n = true
      · have eh := hv n e
        rw [if_neg (by omega)] at ih
        rw [if_pos e, if_pos (by omega)]
        omega
      · rw [if_neg e]
        split at ih
        · rw [if_pos (by omega)]; omega
        · split <;> omega
  have a := q 41
  unfold szV
  split at a <;> omega
/-- how many domains are open -/
def opn (D : DM) (d : Nat) : Int := sm (fun k => if 1 < szV (D k) then 1 else 0) d
theorem opn_le {D E : DM} {d : Nat} (h : ∀ k, k < d → szV (D k) ≤ szV (E k)) : opn D d ≤ opn E d := sm_le d (fun k hk => by
  show (if 1 < szV (D k) then (1 : Int) else 0) ≤ (if 1 < szV (E k) then (1 : Int) else 0)
  have := h k hk
  by_cases e : 1 < szV (D k)
  · rw [if_pos e, if_pos (by omega)]; omega
  · rw [if_neg e]; split <;> omega)
theorem opn_bd (D : DM) (d : Nat) : 0 ≤ opn D d ∧ opn D d ≤ d := by
  have s := sm_bd (f := fun k => if 1 < szV (D k) then (1 : Int) else 0) (a := 0) (b := 1) d (fun j _ => by
      show 0 ≤ (if 1 < szV (D j) then (1 : Int) else 0) ∧ (if 1 < szV (D j) then (1 : Int) else 0) ≤ 1
      split <;> omega)
  unfold opn
  omega
theorem opn_up {D : DM} {d x : Nat} {v : Int64} (hx : x < d) (h1 : 1 < szV (D x)) (h2 : szV v ≤ 1) : opn (updD D x v) d = opn D d - 1 := by
  have e : (fun k => if 1 < szV (updD D x v k) then (1 : Int) else 0) = upf (fun k => if 1 < szV (D k) then (1 : Int) else 0) x 0 := by
    funext k
    unfold updD upf
    by_cases z : k = x
    · rw [if_pos z, if_pos z, if_neg (by omega)]
    · rw [if_neg z, if_neg z]
  unfold opn
  rw [e, sm_up, if_pos hx, if_pos h1]
  omega
theorem solD_and {c : CN} {n d : Nat} {D : DM} {x : Nat} (hx : x < d) (v : Int64) (p : Nat → Nat) : solD c n d (updD D x (D x &&& v)) p ↔ solD c n d D p ∧ bt v (p x) = true := by
  refine ⟨fun h => ⟨⟨fun k hk => ?_, h.2⟩, ?_⟩, fun h => ⟨fun k hk => ?_, h.1.2⟩⟩
  · have a := h.1 k hk
    by_cases e : k = x
    · rw [e, updD_same, bt_and, Bool.and_eq_true] at a
      rw [e]; exact a.1
    · rw [updD_ne _ _ e] at a; exact a
  · have a := h.1 x hx
    rw [updD_same, bt_and, Bool.and_eq_true] at a
    exact a.2
  · by_cases e : k = x
    · rw [e, updD_same, bt_and, Bool.and_eq_true]
      exact ⟨h.1.1 x hx, h.2⟩
    · rw [updD_ne _ _ e]; exact h.1.1 k hk
theorem solD_cg {c : CN} {n d : Nat} {D E : DM} (h : ∀ k, k < d → D k = E k) {p : Nat → Nat} (q : solD c n d D p) : solD c n d E p := ⟨fun k hk => by rw [← h k hk]; exact q.1 k hk, q.2⟩
/-- narrow domains that agree: heights -/
theorem solD_pick {c : CN} {n d : Nat} {D : DM} (hd : d ≤ 6) (hv : vdD D) (hne : ∀ k, k < d → D k ≠ 0) (hc : ∀ i, i < n → (c i).2.1 < d ∧ (c i).2.2.1 < d) (har : ∀ i, i < n → arcD (c i).1 (c i).2.1 (c i).2.2.1 (c i).2.2.2 D) (h1 : ∀ k, k < d → szV (D k) ≤ 1 ∨ ∀ i, i < n → (c i).2.1 ≠ k ∧ (c i).2.2.1 ≠ k) : ∃ p, solD c n d D p := by
  have a : ∀ k : Nat, ∃ j : Nat, k < d → bt (D k) j = true := fun k => by
    by_cases hk : k < d
    · obtain ⟨j, _, hj⟩ := vd_ex (hv k (by omega)) (hne k hk)
      exact ⟨j, fun _ => hj⟩
    · exact ⟨0, fun z => absurd z hk⟩
  obtain ⟨p, hp⟩ := Classical.axiomOfChoice a
  refine ⟨p, hp, fun i hi => ?_⟩
  obtain ⟨f1, s1⟩ := hc i hi
  obtain ⟨j, j1, j2⟩ := (har i hi).1 _ (hp _ s1)
  have sF : szV (D (c i).2.1) ≤ 1 := by
    rcases h1 _ f1 with q | q
    · exact q
    · exact absurd rfl (q i hi).1
  have e : j = p (c i).2.1 := szV_one sF (vd_le (hv _ (by omega)) j1) (vd_le (hv _ (by omega)) (hp _ f1)) j1 (hp _ f1)
  rw [← e]
  exact j2
theorem tkR_0 {R : RW} {x : Int} (h : tkR R x ≤ 0) : ∀ k, k < (R 1).toNat → R (29 + 5 * k + 2) ≠ x ∧ R (29 + 5 * k + 3) ≠ x := by
  unfold tkR at h
  have q : ∀ n : Nat, 0 ≤ sm (fun k => if R (29 + 5 * k + 2) = x ∨ R (29 + 5 * k + 3) = x then (1 : Int) else 0) n ∧ (sm (fun k => if R (29 + 5 * k + 2) = x ∨ R (29 + 5 * k + 3) = x then (1 : Int) else 0) n ≤ 0 → ∀ k, k < n → R (29 + 5 * k + 2) ≠ x ∧ R (29 + 5 * k + 3) ≠ x) := fun n => by
    induction n with
    | zero => exact ⟨Int.le_refl _, fun _ k hk => by omega⟩
    | succ n ih =>
      show 0 ≤ sm (fun k => if R (29 + 5 * k + 2) = x ∨ R (29 + 5 * k + 3) = x then (1 : Int) else 0) n + (if R (29 + 5 * n + 2) = x ∨ R (29 + 5 * n + 3) = x then (1 : Int) else 0) ∧ (sm (fun k => if R (29 + 5 * k + 2) = x ∨ R (29 + 5 * k + 3) = x then (1 : Int) else 0) n + (if R (29 + 5 * n + 2) = x ∨ R (29 + 5 * n + 3) = x then (1 : Int) else 0) ≤ 0 → _)
      by_cases e : R (29 + 5 * n + 2) = x ∨ R (29 + 5 * n + 3) = x
      · rw [if_pos e]; exact ⟨by omega, fun z => by omega⟩
      · rw [if_neg e]
        refine ⟨by omega, fun z k hk => ?_⟩
        by_cases ek : k = n
        · rw [ek]; omega
        · exact ih.2 (by omega) k (by omega)
  exact (q _).2 h
/-- longs from a level on -/
def gfr (m lev : Nat) (Js Ks : Nat → Nat → Int64) : Prop := ∀ a j, ¬ (a = m + 2 ∧ 6 * lev ≤ j) → Ks a j = Js a j
theorem gfr.refl {m lev : Nat} (Js : Nat → Nat → Int64) : gfr m lev Js Js := fun _ _ _ => rfl
theorem gfr.trans {m lev : Nat} {Js Ks Ls : Nat → Nat → Int64} (h : gfr m lev Js Ks) (h2 : gfr m lev Ks Ls) : gfr m lev Js Ls := fun a j q => (h2 a j q).trans (h a j q)
theorem gfr.dn {m lev l2 : Nat} {Js Ks : Nat → Nat → Int64} (h : gfr m lev Js Ks) (hl : l2 ≤ lev) : gfr m l2 Js Ks := fun a j q => h a j (fun z => q ⟨z.1, by omega⟩)
theorem lfr.g {m lev : Nat} {Js Ks : Nat → Nat → Int64} (h : lfr m lev Js Ks) : gfr m lev Js Ks := fun a j q => h a j (fun z => q ⟨z.1, z.2.1⟩)
theorem gfr.up {m lev : Nat} {Js Ks : Nat → Nat → Int64} (h : gfr m lev Js Ks) {i : Nat} {v : Int64} (hi : 6 * lev ≤ i) : gfr m lev Js (up2 Ks (m + 2) i v) := fun a j q => by
  rw [up2_ne (fun z => q ⟨z.1, by omega⟩)]
  exact h a j q
theorem gfr.dom {m lev : Nat} {Js Ks : Nat → Nat → Int64} (h : gfr m (lev + 1) Js Ks) {k : Nat} (hk : k < 6) : domJ Ks m lev k = domJ Js m lev k := h _ _ (fun z => by omega)
/-- the domains of a level stand for the first ones -/
def okL (R : RW) (m lev : Nat) (Js Ls : Nat → Nat → Int64) : Prop := gfr m lev Js Ls ∧ vdD (domJ Ls m lev) ∧ (∀ k, k < (R 0).toNat → domJ Ls m lev k ≠ 0) ∧ opn (domJ Ls m lev) (R 0).toNat + lev ≤ 7 ∧ ∀ p, solD (cnR R) (R 1).toNat (R 0).toNat (domJ Ls m lev) p ↔ solD (cnR R) (R 1).toNat (R 0).toNat (domJ Js m lev) p
theorem okL.mv {R : RW} {m lev : Nat} {Js Ls Ms : Nat → Nat → Int64} (hd : (R 0).toNat ≤ 6) (h : okL R m lev Js Ls) (g : gfr m (lev + 1) Ls Ms) : okL R m lev Js Ms := by
  obtain ⟨a, b, c, e, f⟩ := h
  refine ⟨a.trans (g.dn (by omega)), fun k hk => by rw [g.dom hk]; exact b k hk, fun k hk => by rw [g.dom (by omega)]; exact c k hk, ?_, fun p => ?_⟩
  · have := opn_le (D := domJ Ms m lev) (E := domJ Ls m lev) (d := (R 0).toNat) (fun k hk => by rw [g.dom (by omega)]; exact Int.le_refl _)
    omega
  · rw [← f p]
    exact ⟨solD_cg (fun k hk => g.dom (by omega)), solD_cg (fun k hk => (g.dom (by omega)).symm)⟩
theorem okL.mk {R : RW} {m lev : Nat} {Js Ks : Nat → Nat → Int64} (hd : (R 0).toNat ≤ 6) (hne : ∀ k, k < (R 0).toNat → domJ Js m lev k ≠ 0) (hop : opn (domJ Js m lev) (R 0).toNat + lev ≤ 7) (h1 : lfr m lev Js Ks) (h2 : vdD (domJ Ks m lev)) (h3 : subD (domJ Ks m lev) (domJ Js m lev)) (h4 : ∀ p, solD (cnR R) (R 1).toNat (R 0).toNat (domJ Js m lev) p → solD (cnR R) (R 1).toNat (R 0).toNat (domJ Ks m lev) p) : okL R m lev Js Ks := by
  refine ⟨h1.g, h2, fun k hk z => hne k hk (h3.2 k z), ?_, fun p => ⟨fun q => ⟨fun k hk => h3.1 k _ (q.1 k hk), q.2⟩, h4 p⟩⟩
  have := opn_le (D := domJ Ks m lev) (E := domJ Js m lev) (d := (R 0).toNat) (fun k hk => szV_le (h3.1 k))
  omega
/-- what the search of a level answers -/
def solP (B : HP) (I : IM) (R : RW) (m lev n : Nat) : Prop := ∀ (d : Nat) (Js : Nat → Nat → Int64) (Post : Out → HP → Prop), vdD (domJ Js m lev) → (∀ k, k < (R 0).toNat → domJ Js m lev k ≠ 0) → opn (domJ Js m lev) (R 0).toNat + lev ≤ 7 → (∀ Ks, gfr m lev Js Ks → (∃ p, solD (cnR R) (R 1).toNat (R 0).toNat (domJ Js m lev) p) → Post (.inl (some (.int (i3 1)))) (wI (wL B Ks) I)) → (∀ Ks, gfr m lev Js Ks → (∀ p, ¬ solD (cnR R) (R 1).toNat (R 0).toNat (domJ Js m lev) p) → Post (.inl (some (.int (i3 0)))) (wI (wL B Ks) I)) → Sp (d + n) k_X9_isSolvable [.ref m, .int (i3 (lev : Int))] (wI (wL B Js) I) Post

theorem s_R_solvW {d : Nat} {B : HP} {I : IM} {Post : Out → HP → Prop} {m lev x n : Nat} (hm : oM B m) {R : RW} (hd0 : (R 0).toNat ≤ 6) (hlev : lev ≤ 7) (hx : x < 6) {v : Int64} {Js : Nat → Nat → Int64} (hv : vdD (domJ Js m lev)) (hS : solP B I R m (lev + 1) n) (hne : ∀ k, k < (R 0).toNat → k ≠ x → domJ Js m lev k ≠ 0) (hop : opn (updD (domJ Js m lev) x (domJ Js m lev x &&& v)) (R 0).toNat + (lev + 1) ≤ 7) (p1 : ∀ Ks, gfr m (lev + 1) Js Ks → (∃ p, solD (cnR R) (R 1).toNat (R 0).toNat (updD (domJ Js m lev) x (domJ Js m lev x &&& v)) p) → Post (.inl (some (.int (i3 1)))) (wI (wL B Ks) I)) (p0 : ∀ Ks, gfr m (lev + 1) Js Ks → (x < (R 0).toNat → ∀ p, ¬ solD (cnR R) (R 1).toNat (R 0).toNat (updD (domJ Js m lev) x (domJ Js m lev x &&& v)) p) → Post (.inl (some (.int (i3 0)))) (wI (wL B Ks) I)) : Sp (d + n + 1) k_X9_isSolvableWith [.ref m, .int (i3 ((lev : Int))), .int (i3 ((x : Int))), .long v] (wI (wL B Js) I) Post := by
  refine Sp_intro md_X9_isSolvableWith rfl rfl (fun G hG => ?_)
  have hm0 := hm
  obtain ⟨n1, n2, n3, n4, n5, n6, n7, n8, n9, n10, n11⟩ := hm
  have hmL : ∀ Js, oM (wL B Js) m := fun _ => hm0
  have lp : ∀ (mz : Nat) (k : Nat) (Ks : Nat → Nat → Int64), 6 - k = mz → k ≤ 6 → gfr m (lev + 1) Js Ks → (∀ j, j < k → domJ Ks m (lev + 1) j = domJ Js m lev j) → G 3 [some (.ref m), some (.int (i3 (lev : Int))), some (.int (i3 (x : Int))), some (.long v), none, some (.int (i3 (k : Int)))] [] (wI (wL B Ks) I) := by
    intro mz
    induction mz using Nat.strongRecOn with
    | ind mz ih =>
      intro k Ks hme hk hg hcp
      refine q_iload hG rfl rfl ?_
      refine q_bipush (v := 6) hG rfl rfl ?_
      refine q_icmp_ge hG rfl ⟨by omega, by omega⟩ ⟨by omega, by omega⟩ (fun hc7 => ?_) (fun hc7 => ?_)
      · have hgU : gfr m (lev + 1) Js (up2 Ks (m + 2) (6 * ((lev : Int) + 1) + (x : Int)).toNat (domJ Js m lev x &&& v)) := hg.up (by omega)
        have eE : ∀ j, j < 6 → domJ (up2 Ks (m + 2) (6 * ((lev : Int) + 1) + (x : Int)).toNat (domJ Js m lev x &&& v)) m (lev + 1) j = updD (domJ Js m lev) x (domJ Js m lev x &&& v) j := fun j hj => by
          rw [dom_up (k := x) (by omega)]
          unfold updD
          split
          · rfl
          · exact hcp j (by omega)
        refine q_aload_n hG rfl rfl ?_
        refine q_getR hG rfl (by assumption) (by assumption) ?_
        refine q_bipush (v := 6) hG rfl rfl ?_
        refine q_iload_n hG rfl rfl ?_
        refine q_iconst (v := 1) hG rfl rfl ?_
        refine q_iadd hG rfl ?_
        refine q_imul hG rfl ?_
        refine q_iload_n hG rfl rfl ?_
        refine q_iadd hG rfl ?_
        refine q_dup2 hG rfl rfl rfl ?_
        refine q_laldv (v := domJ Js m lev x) hG rfl (by assumption) ⟨by omega, by omega, by omega⟩ ((congrArg (Ks (m + 2)) (by omega)).trans (hcp x (by omega))) ?_
        refine q_lload_n hG rfl rfl ?_
        refine q_land hG rfl ?_
        refine q_lastL hG rfl (by assumption) ⟨by omega, by omega, by omega⟩ ?_
        refine q_aload_n hG rfl rfl ?_
        refine q_getR hG rfl (by assumption) (by assumption) ?_
        refine q_bipush (v := 6) hG rfl rfl ?_
        refine q_iload_n hG rfl rfl ?_
        refine q_iconst (v := 1) hG rfl rfl ?_
        refine q_iadd hG rfl ?_
        refine q_imul hG rfl ?_
        refine q_iload_n hG rfl rfl ?_
        refine q_iadd hG rfl ?_
        refine q_laldv (v := domJ Js m lev x &&& v) hG rfl (by assumption) ⟨by omega, by omega, by omega⟩ (if_pos ⟨rfl, by omega⟩) ?_
        refine q_lconst0 hG rfl ?_
        refine q_lcmpv hG rfl ?_
        refine q_if_eq hG rfl (lgc_r _ _) (fun hc74 => ?_) (fun hc74 => ?_)
        · refine q_iconst (v := 0) hG rfl rfl ?_
          refine q_iret5 hG rfl rfl (by decide) ?_
          first
          | exact p0 Ks2 (hgU.trans g1) (fun _ p hp => g2 p (solD_cg (fun j hj => (eE j (by omega)).symm) hp))
          | (refine p0 _ hgU (fun hxd p hp => ?_)
             have a := hp.1 x hxd
             rw [updD_same, show domJ Js m lev x &&& v = 0 from lgc_0.mp hc74, bt_zero] at a
             exact absurd a (by decide))
        · refine q_aload_n hG rfl rfl ?_
          refine q_iload_n hG rfl rfl ?_
          refine q_iconst (v := 1) hG rfl rfl ?_
          refine q_iadd hG rfl ?_
          refine q_callV6 hG rfl rfl rfl (by assumption) (hS _ _ _ (fun j hj => by rw [eE j hj]; exact vdD_up hv (vd_and (hv x hx)) j hj) (fun j hj => by
      rw [eE j (by omega)]
      unfold updD
      split
      · exact fun z => hc74 (lgc_0.mpr z)
      · exact hne j hj (by assumption)) (by
      have := opn_le (D := domJ (up2 Ks (m + 2) (6 * ((lev : Int) + 1) + (x : Int)).toNat (domJ Js m lev x &&& v)) m (lev + 1)) (E := (updD (domJ Js m lev) x (domJ Js m lev x &&& v))) (d := (R 0).toNat) (fun j hj => by rw [eE j (by omega)]; exact Int.le_refl _)
      omega) (fun Ks2 g1 g2 => ?_) (fun Ks2 g1 g2 => ?_))
          · refine q_if_eq hG rfl ⟨by omega, by omega⟩ (fun q => absurd q (by decide)) (fun _ => ?_)
            refine q_iconst (v := 1) hG rfl rfl ?_
            refine q_goto hG rfl ?_
            refine q_iret5 hG rfl rfl (by decide) ?_
            obtain ⟨p, hp⟩ := g2
            exact p1 Ks2 (hgU.trans g1) ⟨p, solD_cg (fun j hj => eE j (by omega)) hp⟩
          · refine q_if_eq hG rfl ⟨by omega, by omega⟩ (fun _ => ?_) (fun q => absurd (by decide) q)
            refine q_iconst (v := 0) hG rfl rfl ?_
            refine q_iret5 hG rfl rfl (by decide) ?_
            first
            | exact p0 Ks2 (hgU.trans g1) (fun _ p hp => g2 p (solD_cg (fun j hj => (eE j (by omega)).symm) hp))
            | (refine p0 _ hgU (fun hxd p hp => ?_)
               have a := hp.1 x hxd
               rw [updD_same, show domJ Js m lev x &&& v = 0 from lgc_0.mp hc74, bt_zero] at a
               exact absurd a (by decide))
      · refine q_aload_n hG rfl rfl ?_
        refine q_getR hG rfl (by assumption) (by assumption) ?_
        refine q_bipush (v := 6) hG rfl rfl ?_
        refine q_iload_n hG rfl rfl ?_
        refine q_iconst (v := 1) hG rfl rfl ?_
        refine q_iadd hG rfl ?_
        refine q_imul hG rfl ?_
        refine q_iload hG rfl rfl ?_
        refine q_iadd hG rfl ?_
        refine q_aload_n hG rfl rfl ?_
        refine q_getR hG rfl (by assumption) (by assumption) ?_
        refine q_bipush (v := 6) hG rfl rfl ?_
        refine q_iload_n hG rfl rfl ?_
        refine q_imul hG rfl ?_
        refine q_iload hG rfl rfl ?_
        refine q_iadd hG rfl ?_
        refine q_laldv (v := domJ Js m lev k) hG rfl (by assumption) ⟨by omega, by omega, by omega⟩ ((congrArg (Ks (m + 2)) (by omega)).trans (hg.dom (by omega))) ?_
        refine q_lastL hG rfl (by assumption) ⟨by omega, by omega, by omega⟩ ?_
        refine q_iinc (c := 1) hG rfl rfl rfl rfl ?_
        refine q_goto hG rfl ?_
        refine ih _ (by omega) (k + 1) _ rfl (by omega) (hg.up (by omega)) (fun j hj => ?_)
        rw [dom_up (k := k) (by omega)]
        unfold updD
        split
        · rename_i e; rw [e]
        · exact hcp j (by omega)
  show G 0 [some (.ref m), some (.int (i3 ((lev : Int)))), some (.int (i3 ((x : Int)))), some (.long v), none, none] [] (wI (wL B Js) I)
  refine q_iconst (v := 0) hG rfl rfl ?_
  refine q_istore hG rfl rfl ?_
  exact lp _ 0 Js rfl (by omega) (gfr.refl Js) (fun j hj => by omega)
theorem s_R_solv1 {d : Nat} {B : HP} {I : IM} {Post : Out → HP → Prop} {m lev n : Nat} (hm : oM B m) {R : RW} (hR0 : ∀ j, j < 79 → I (m + 1) j = R j) {q : Int} (hW : WfR q R) (hlev : lev ≤ 7) {Js : Nat → Nat → Int64} (hv : vdD (domJ Js m lev)) (hne : ∀ k, k < (R 0).toNat → domJ Js m lev k ≠ 0) (hop : opn (domJ Js m lev) (R 0).toNat + lev ≤ 7) (hS : lev ≤ 6 → solP B I R m (lev + 1) (n + 2)) (p1 : ∀ Ks, gfr m lev Js Ks → (∃ p, solD (cnR R) (R 1).toNat (R 0).toNat (domJ Js m lev) p) → Post (.inl (some (.int (i3 1)))) (wI (wL B Ks) I)) (p0 : ∀ Ks, gfr m lev Js Ks → (∀ p, ¬ solD (cnR R) (R 1).toNat (R 0).toNat (domJ Js m lev) p) → Post (.inl (some (.int (i3 0)))) (wI (wL B Ks) I)) : Sp (d + n + 4) k_X9_isSolvable [.ref m, .int (i3 ((lev : Int)))] (wI (wL B Js) I) Post := by
  refine Sp_intro md_X9_isSolvable rfl rfl (fun G hG => ?_)
  have hm0 := hm
  obtain ⟨n1, n2, n3, n4, n5, n6, n7, n8, n9, n10, n11⟩ := hm
  have hmL : ∀ Js, oM (wL B Js) m := fun _ => hm0
  have hW0 := hW
  obtain ⟨w0, w1, w2, w3, w4, wd, wc⟩ := hW
  have hd0 : (R 0).toNat ≤ 6 := by omega
  have hR0' : ∀ j, j < 79 → I (m + 1) j = R j := hR0
  have tkc : ∀ k : Nat, (k : Int) < I (m + 1) 1 → r32 (cR I m k 2) ∧ r32 (cR I m k 3) := fun k hk => by
    rw [hR0 1 (by omega)] at hk
    rw [show cR I m k 2 = R (29 + 5 * k + 2) from hR0 _ (by omega), show cR I m k 3 = R (29 + 5 * k + 3) from hR0 _ (by omega)]
    obtain ⟨-, -, v3, v4, -⟩ := wc k hk
    exact ⟨⟨by omega, by omega⟩, ⟨by omega, by omega⟩⟩
  have tke : ∀ x : Int, sm (fun k => if cR I m k 2 = x ∨ cR I m k 3 = x then 1 else 0) (I (m + 1) 1).toNat = tkR R x := fun x => by
    rw [hR0 1 (by omega)]
    unfold tkR
    refine sm_congr _ (fun k hk => ?_)
    rw [show cR I m k 2 = R (29 + 5 * k + 2) from hR0 _ (by omega), show cR I m k 3 = R (29 + 5 * k + 3) from hR0 _ (by omega)]
  have hcF : ∀ i, i < (R 1).toNat → (cnR R i).2.1 < (R 0).toNat ∧ (cnR R i).2.2.1 < (R 0).toNat := fun i hi => by
    obtain ⟨-, -, v3, v4, -⟩ := wc i (by omega)
    show (R (29 + 5 * i + 2)).toNat < _ ∧ (R (29 + 5 * i + 3)).toNat < _
    omega
  have lq : ∀ (mz : Nat) (best : Nat) (bs : Int) (Ls : Nat → Nat → Int64) (wv : Int64) (h : Nat), 41 - h = mz → best < (R 0).toNat → lev ≤ 6 → domJ Ls m lev best = wv → 1 < szV wv → okL R m lev Js Ls → h ≤ 41 → (∀ j, j < h → bt wv j = true → ∀ p, solD (cnR R) (R 1).toNat (R 0).toNat (domJ Js m lev) p → p best ≠ j) → G 115 [some (.ref m), some (.int (i3 (lev : Int))), some (.int (i3 (best : Int))), some (.int (i3 bs)), some (.long wv), none, some (.int (i3 (h : Int)))] [] (wI (wL B Ls) I) := by
    intro mz
    induction mz using Nat.strongRecOn with
    | ind mz ih =>
      intro best bs Ls wv h hme hbd hl hw hz hok hh hno
      refine q_iload hG rfl rfl ?_
      refine q_bipush (v := 40) hG rfl rfl ?_
      refine q_icmp_gt hG rfl ⟨by omega, by omega⟩ ⟨by omega, by omega⟩ (fun hc119 => ?_) (fun hc119 => ?_)
      · refine q_iconst (v := 0) hG rfl rfl ?_
        refine q_iret5 hG rfl rfl (by decide) ?_
        refine p0 Ls hok.1 (fun p hp => ?_)
        have a := ((hok.2.2.2.2 p).mpr hp).1 best hbd
        rw [hw] at a
        have hvw : vd wv := by rw [← hw]; exact hok.2.1 best (by omega)
        exact hno (p best) (by have := vd_le hvw a; omega) a p hp rfl
      · have hvw : vd wv := by rw [← hw]; exact hok.2.1 best (by omega)
        have b2 := (bt_in (k := h) hvw (by omega)).2
        have b3 : lgc ((wv >>> shA (h : Int)) &&& 1) 1 = 0 ↔ bt wv h = true := lgc_0.trans b2
        refine q_lload hG rfl rfl ?_
        refine q_iload hG rfl rfl ?_
        refine q_lshr hG rfl ?_
        refine q_lconst1 hG rfl ?_
        refine q_land hG rfl ?_
        refine q_lconst1 hG rfl ?_
        refine q_lcmpv hG rfl ?_
        refine q_if_ne hG rfl (lgc_r _ _) (fun hc131 => ?_) (fun hc131 => ?_)
        · refine q_iinc (c := 1) hG rfl rfl rfl rfl ?_
          refine q_goto hG rfl ?_
          have hno2 : ∀ j, j < h + 1 → bt wv j = true → ∀ p, solD (cnR R) (R 1).toNat (R 0).toNat (domJ Js m lev) p → p best ≠ j := fun j hj bj p hp e => by
            by_cases ej : j = h
            · exact absurd ((b3 : _).mpr (ej ▸ bj)) hc131
            · exact hno j (by omega) bj p hp e
          exact ih _ (by omega) best bs Ls wv (h + 1) rfl hbd hl hw hz hok (by omega) hno2
        · refine q_aload_n hG rfl rfl ?_
          refine q_iload_n hG rfl rfl ?_
          refine q_iload_n hG rfl rfl ?_
          refine q_lconst1 hG rfl ?_
          refine q_iload hG rfl rfl ?_
          refine q_lshl hG rfl ?_
          refine q_callV6 hG rfl rfl rfl (by assumption) (s_R_solvW (n := n + 2) (x := best) (v := 1 <<< shA (h : Int)) (Js := Ls) hm0 hd0 (by omega) (by omega) hok.2.1 (hS hl) (fun k hk _ => hok.2.2.1 k hk) (by
      rw [opn_up hbd (by rw [hw]; exact hz) (szV_bit (h := h) (fun j hj => by
        rw [bt_and, Bool.and_eq_true, bt_bit ⟨by omega, by omega⟩] at hj
        have := of_decide_eq_true hj.2
        omega))]
      have := hok.2.2.2.1
      omega) (fun Ms g1 g2 => ?_) (fun Ms g1 g2 => ?_))
          · refine q_if_eq hG rfl ⟨by omega, by omega⟩ (fun q => absurd q (by decide)) (fun _ => ?_)
            refine q_iconst (v := 1) hG rfl rfl ?_
            refine q_iret5 hG rfl rfl (by decide) ?_
            obtain ⟨p, hp⟩ := g2
            exact p1 Ms (hok.1.trans (g1.dn (by omega))) ⟨p, (hok.2.2.2.2 p).mp ((solD_and hbd _ p).mp hp).1⟩
          · have g2 := g2 hbd
            refine q_if_eq hG rfl ⟨by omega, by omega⟩ (fun _ => ?_) (fun q => absurd (by decide) q)
            refine q_iinc (c := 1) hG rfl rfl rfl rfl ?_
            refine q_goto hG rfl ?_
            have hno2 : ∀ j, j < h + 1 → bt wv j = true → ∀ p, solD (cnR R) (R 1).toNat (R 0).toNat (domJ Js m lev) p → p best ≠ j := fun j hj bj p hp e => by
              by_cases ej : j = h
              · exact g2 p ((solD_and hbd _ p).mpr ⟨(hok.2.2.2.2 p).mpr hp, by rw [bt_bit ⟨by omega, by omega⟩, e, ej]; exact decide_eq_true (by omega)⟩)
              · exact hno j (by omega) bj p hp e
            exact ih _ (by omega) best bs Ms wv (h + 1) rfl hbd hl (by rw [g1.dom (by omega)]; exact hw) hz (hok.mv hd0 g1) (by omega) hno2
  have lp : ∀ (mz : Nat) (k : Nat) (best : Int) (bs : Int) (Ks : Nat → Nat → Int64) (v5 : Option Value) (v6 : Option Value), (R 0).toNat - k = mz → k ≤ (R 0).toNat → okL R m lev Js Ks → (∀ i, i < (R 1).toNat → arcD (cnR R i).1 (cnR R i).2.1 (cnR R i).2.2.1 (cnR R i).2.2.2 (domJ Ks m lev)) → ((best = -1 ∧ bs = 42 ∧ ∀ j, j < k → szV (domJ Ks m lev j) ≤ 1 ∨ tkR R j ≤ 0) ∨ (0 ≤ best ∧ best < k ∧ bs = szV (domJ Ks m lev best.toNat) ∧ 1 < bs)) → G 18 [some (.ref m), some (.int (i3 (lev : Int))), some (.int (i3 best)), some (.int (i3 bs)), some (.int (i3 (k : Int))), v5, v6] [] (wI (wL B Ks) I) := by
    intro mz
    induction mz using Nat.strongRecOn with
    | ind mz ih =>
      intro k best bs Ks v5 v6 hme hk hok har hb
      have hbsR : 0 ≤ bs ∧ bs ≤ 42 := by
        rcases hb with ⟨-, q2, -⟩ | ⟨-, -, q3, -⟩
        · omega
        · have := szV_bd (domJ Ks m lev best.toNat); omega
      have hbeR : -1 ≤ best ∧ best ≤ k := by omega
      refine q_iload hG rfl rfl ?_
      refine q_aload_n hG rfl rfl ?_
      refine q_getR hG rfl (by assumption) (by assumption) ?_
      refine q_iconst (v := 0) hG rfl rfl ?_
      refine q_ialdv (v := R 0) hG rfl (by assumption) ⟨by omega, by omega, by omega⟩ (hR0 0 (by omega)) ?_
      refine q_icmp_ge hG rfl ⟨by omega, by omega⟩ ⟨by omega, by omega⟩ (fun hc26 => ?_) (fun hc26 => ?_)
      · refine q_iload_n hG rfl rfl ?_
        refine q_if_ge hG rfl ⟨by omega, by omega⟩ (fun hc94 => ?_) (fun hc94 => ?_)
        · obtain ⟨bn, rfl⟩ : ∃ bn : Nat, best = (bn : Int) := ⟨best.toNat, by omega⟩
          have hkR : k = (R 0).toNat := by omega
          obtain ⟨q2, q3, q4⟩ : (bn : Int) < k ∧ bs = szV (domJ Ks m lev bn) ∧ 1 < bs := by
            rcases hb with ⟨q1, -⟩ | ⟨-, q2, q3, q4⟩
            · omega
            · exact ⟨q2, q3, q4⟩
          have hlev6 : lev ≤ 6 := by
            have a := opn_up (v := 0) (D := domJ Ks m lev) (d := (R 0).toNat) (x := bn) (by omega) (by omega) (szV_bit (h := 0) (fun j hj => by rw [bt_zero] at hj; exact absurd hj (by decide)))
            have b := opn_bd (updD (domJ Ks m lev) bn 0) (R 0).toNat
            have c := hok.2.2.2.1
            omega
          refine q_aload_n hG rfl rfl ?_
          refine q_getR hG rfl (by assumption) (by assumption) ?_
          refine q_bipush (v := 6) hG rfl rfl ?_
          refine q_iload_n hG rfl rfl ?_
          refine q_imul hG rfl ?_
          refine q_iload_n hG rfl rfl ?_
          refine q_iadd hG rfl ?_
          refine q_laldv (v := domJ Ks m lev bn) hG rfl (by assumption) ⟨by omega, by omega, by omega⟩ (congrArg (Ks (m + 2)) (by omega)) ?_
          refine q_lstore hG rfl rfl ?_
          refine q_iconst (v := 0) hG rfl rfl ?_
          refine q_istore hG rfl rfl ?_
          exact lq _ bn bs Ks _ 0 rfl (by omega) (by omega) rfl (by rw [← q3]; exact q4) hok (by omega) (fun j hj => by omega)
        · refine q_iconst (v := 1) hG rfl rfl ?_
          refine q_iret5 hG rfl rfl (by decide) ?_
          rcases hb with ⟨q1, q2, q3⟩ | ⟨q1, -⟩
          · have hkR : k = (R 0).toNat := by omega
            obtain ⟨p, hp⟩ := solD_pick hd0 hok.2.1 hok.2.2.1 hcF har (fun j hj => by
              rcases q3 j (by omega) with z | z
              · exact Or.inl z
              · refine Or.inr (fun i hi => ?_)
                have t := tkR_0 z i hi
                obtain ⟨-, -, v3, v4, -⟩ := wc i (by omega)
                show (R (29 + 5 * i + 2)).toNat ≠ j ∧ (R (29 + 5 * i + 3)).toNat ≠ j
                omega)
            exact p1 Ks hok.1 ⟨p, (hok.2.2.2.2 p).mp hp⟩
          · omega
      · refine q_aload_n hG rfl rfl ?_
        refine q_getR hG rfl (by assumption) (by assumption) ?_
        refine q_bipush (v := 6) hG rfl rfl ?_
        refine q_iload_n hG rfl rfl ?_
        refine q_imul hG rfl ?_
        refine q_iload hG rfl rfl ?_
        refine q_iadd hG rfl ?_
        refine q_laldv (v := domJ Ks m lev k) hG rfl (by assumption) ⟨by omega, by omega, by omega⟩ (congrArg (Ks (m + 2)) (by omega)) ?_
        refine q_callS0 hG rfl rfl rfl (s_R_size (hok.2.1 k (by omega)) ?_)
        have hz9 := szV_bd (domJ Ks m lev k)
        refine q_istore hG rfl rfl ?_
        refine q_iload hG rfl rfl ?_
        refine q_iconst (v := 1) hG rfl rfl ?_
        refine q_icmp_le hG rfl ⟨by omega, by omega⟩ ⟨by omega, by omega⟩ (fun hc49 => ?_) (fun hc49 => ?_)
        · refine q_iload_n hG rfl rfl ?_
          refine q_istore_n hG rfl rfl ?_
          refine q_iload_n hG rfl rfl ?_
          refine q_iload hG rfl rfl ?_
          refine q_icmp_ne hG rfl ⟨by omega, by omega⟩ ⟨by omega, by omega⟩ (fun hc77 => ?_) (fun hc77 => ?_)
          · refine q_iload_n hG rfl rfl ?_
            refine q_istore_n hG rfl rfl ?_
            refine q_iinc (c := 1) hG rfl rfl rfl rfl ?_
            refine q_goto hG rfl ?_
            have hno : best = -1 → (szV (domJ Ks m lev k) ≤ 1 ∨ tkR R k ≤ 0) → ∀ j, j < k + 1 → szV (domJ Ks m lev j) ≤ 1 ∨ tkR R j ≤ 0 := fun z q j hj => by
              by_cases e : j = k
              · rw [e]; exact q
              · rcases hb with ⟨-, -, q3⟩ | ⟨q1, -⟩
                · exact q3 j (by omega)
                · omega
            first
            | (exfalso; omega)
            | (refine ih _ (by omega) (k + 1) best bs Ks _ _ rfl (by omega) hok har ?_
               rcases hb with ⟨q1, q2, q3⟩ | ⟨q1, q2, q3, q4⟩
               · exact Or.inl ⟨q1, q2, hno q1 (by omega)⟩
               · exact Or.inr ⟨q1, by omega, q3, q4⟩)
            | exact ih _ (by omega) (k + 1) (k : Int) (szV (domJ Ks m lev k)) Ks _ _ rfl (by omega) hok har (Or.inr ⟨by omega, by omega, rfl, by omega⟩)
          · refine q_iload hG rfl rfl ?_
            refine q_goto hG rfl ?_
            refine q_istore_n hG rfl rfl ?_
            refine q_iinc (c := 1) hG rfl rfl rfl rfl ?_
            refine q_goto hG rfl ?_
            have hno : best = -1 → (szV (domJ Ks m lev k) ≤ 1 ∨ tkR R k ≤ 0) → ∀ j, j < k + 1 → szV (domJ Ks m lev j) ≤ 1 ∨ tkR R j ≤ 0 := fun z q j hj => by
              by_cases e : j = k
              · rw [e]; exact q
              · rcases hb with ⟨-, -, q3⟩ | ⟨q1, -⟩
                · exact q3 j (by omega)
                · omega
            first
            | (exfalso; omega)
            | (refine ih _ (by omega) (k + 1) best bs Ks _ _ rfl (by omega) hok har ?_
               rcases hb with ⟨q1, q2, q3⟩ | ⟨q1, q2, q3, q4⟩
               · exact Or.inl ⟨q1, q2, hno q1 (by omega)⟩
               · exact Or.inr ⟨q1, by omega, q3, q4⟩)
            | exact ih _ (by omega) (k + 1) (k : Int) (szV (domJ Ks m lev k)) Ks _ _ rfl (by omega) hok har (Or.inr ⟨by omega, by omega, rfl, by omega⟩)
        · refine q_iload hG rfl rfl ?_
          refine q_iload_n hG rfl rfl ?_
          refine q_icmp_ge hG rfl ⟨by omega, by omega⟩ ⟨by omega, by omega⟩ (fun hc55 => ?_) (fun hc55 => ?_)
          · refine q_iload_n hG rfl rfl ?_
            refine q_istore_n hG rfl rfl ?_
            refine q_iload_n hG rfl rfl ?_
            refine q_iload hG rfl rfl ?_
            refine q_icmp_ne hG rfl ⟨by omega, by omega⟩ ⟨by omega, by omega⟩ (fun hc77 => ?_) (fun hc77 => ?_)
            · refine q_iload_n hG rfl rfl ?_
              refine q_istore_n hG rfl rfl ?_
              refine q_iinc (c := 1) hG rfl rfl rfl rfl ?_
              refine q_goto hG rfl ?_
              have hno : best = -1 → (szV (domJ Ks m lev k) ≤ 1 ∨ tkR R k ≤ 0) → ∀ j, j < k + 1 → szV (domJ Ks m lev j) ≤ 1 ∨ tkR R j ≤ 0 := fun z q j hj => by
                by_cases e : j = k
                · rw [e]; exact q
                · rcases hb with ⟨-, -, q3⟩ | ⟨q1, -⟩
                  · exact q3 j (by omega)
                  · omega
              first
              | (exfalso; omega)
              | (refine ih _ (by omega) (k + 1) best bs Ks _ _ rfl (by omega) hok har ?_
                 rcases hb with ⟨q1, q2, q3⟩ | ⟨q1, q2, q3, q4⟩
                 · exact Or.inl ⟨q1, q2, hno q1 (by omega)⟩
                 · exact Or.inr ⟨q1, by omega, q3, q4⟩)
              | exact ih _ (by omega) (k + 1) (k : Int) (szV (domJ Ks m lev k)) Ks _ _ rfl (by omega) hok har (Or.inr ⟨by omega, by omega, rfl, by omega⟩)
            · refine q_iload hG rfl rfl ?_
              refine q_goto hG rfl ?_
              refine q_istore_n hG rfl rfl ?_
              refine q_iinc (c := 1) hG rfl rfl rfl rfl ?_
              refine q_goto hG rfl ?_
              have hno : best = -1 → (szV (domJ Ks m lev k) ≤ 1 ∨ tkR R k ≤ 0) → ∀ j, j < k + 1 → szV (domJ Ks m lev j) ≤ 1 ∨ tkR R j ≤ 0 := fun z q j hj => by
                by_cases e : j = k
                · rw [e]; exact q
                · rcases hb with ⟨-, -, q3⟩ | ⟨q1, -⟩
                  · exact q3 j (by omega)
                  · omega
              first
              | (exfalso; omega)
              | (refine ih _ (by omega) (k + 1) best bs Ks _ _ rfl (by omega) hok har ?_
                 rcases hb with ⟨q1, q2, q3⟩ | ⟨q1, q2, q3, q4⟩
                 · exact Or.inl ⟨q1, q2, hno q1 (by omega)⟩
                 · exact Or.inr ⟨q1, by omega, q3, q4⟩)
              | exact ih _ (by omega) (k + 1) (k : Int) (szV (domJ Ks m lev k)) Ks _ _ rfl (by omega) hok har (Or.inr ⟨by omega, by omega, rfl, by omega⟩)
          · refine q_aload_n hG rfl rfl ?_
            refine q_iload hG rfl rfl ?_
            refine q_callV6 hG rfl rfl rfl (by assumption) (s_R_takes (I := I) (hmL _) ⟨by omega, by omega⟩ (by rw [hR0 1 (by omega)]; exact w1) tkc ?_)
            rw [tke]
            have htk := tkR_bd R (k : Int) w1
            refine q_if_le hG rfl ⟨by omega, by omega⟩ (fun hc64 => ?_) (fun hc64 => ?_)
            · refine q_iload_n hG rfl rfl ?_
              refine q_istore_n hG rfl rfl ?_
              refine q_iload_n hG rfl rfl ?_
              refine q_iload hG rfl rfl ?_
              refine q_icmp_ne hG rfl ⟨by omega, by omega⟩ ⟨by omega, by omega⟩ (fun hc77 => ?_) (fun hc77 => ?_)
              · refine q_iload_n hG rfl rfl ?_
                refine q_istore_n hG rfl rfl ?_
                refine q_iinc (c := 1) hG rfl rfl rfl rfl ?_
                refine q_goto hG rfl ?_
                have hno : best = -1 → (szV (domJ Ks m lev k) ≤ 1 ∨ tkR R k ≤ 0) → ∀ j, j < k + 1 → szV (domJ Ks m lev j) ≤ 1 ∨ tkR R j ≤ 0 := fun z q j hj => by
                  by_cases e : j = k
                  · rw [e]; exact q
                  · rcases hb with ⟨-, -, q3⟩ | ⟨q1, -⟩
                    · exact q3 j (by omega)
                    · omega
                first
                | (exfalso; omega)
                | (refine ih _ (by omega) (k + 1) best bs Ks _ _ rfl (by omega) hok har ?_
                   rcases hb with ⟨q1, q2, q3⟩ | ⟨q1, q2, q3, q4⟩
                   · exact Or.inl ⟨q1, q2, hno q1 (by omega)⟩
                   · exact Or.inr ⟨q1, by omega, q3, q4⟩)
                | exact ih _ (by omega) (k + 1) (k : Int) (szV (domJ Ks m lev k)) Ks _ _ rfl (by omega) hok har (Or.inr ⟨by omega, by omega, rfl, by omega⟩)
              · refine q_iload hG rfl rfl ?_
                refine q_goto hG rfl ?_
                refine q_istore_n hG rfl rfl ?_
                refine q_iinc (c := 1) hG rfl rfl rfl rfl ?_
                refine q_goto hG rfl ?_
                have hno : best = -1 → (szV (domJ Ks m lev k) ≤ 1 ∨ tkR R k ≤ 0) → ∀ j, j < k + 1 → szV (domJ Ks m lev j) ≤ 1 ∨ tkR R j ≤ 0 := fun z q j hj => by
                  by_cases e : j = k
                  · rw [e]; exact q
                  · rcases hb with ⟨-, -, q3⟩ | ⟨q1, -⟩
                    · exact q3 j (by omega)
                    · omega
                first
                | (exfalso; omega)
                | (refine ih _ (by omega) (k + 1) best bs Ks _ _ rfl (by omega) hok har ?_
                   rcases hb with ⟨q1, q2, q3⟩ | ⟨q1, q2, q3, q4⟩
                   · exact Or.inl ⟨q1, q2, hno q1 (by omega)⟩
                   · exact Or.inr ⟨q1, by omega, q3, q4⟩)
                | exact ih _ (by omega) (k + 1) (k : Int) (szV (domJ Ks m lev k)) Ks _ _ rfl (by omega) hok har (Or.inr ⟨by omega, by omega, rfl, by omega⟩)
            · refine q_iload hG rfl rfl ?_
              refine q_goto hG rfl ?_
              refine q_istore_n hG rfl rfl ?_
              refine q_iload_n hG rfl rfl ?_
              refine q_iload hG rfl rfl ?_
              refine q_icmp_ne hG rfl ⟨by omega, by omega⟩ ⟨by omega, by omega⟩ (fun hc77 => ?_) (fun hc77 => ?_)
              · refine q_iload_n hG rfl rfl ?_
                refine q_istore_n hG rfl rfl ?_
                refine q_iinc (c := 1) hG rfl rfl rfl rfl ?_
                refine q_goto hG rfl ?_
                have hno : best = -1 → (szV (domJ Ks m lev k) ≤ 1 ∨ tkR R k ≤ 0) → ∀ j, j < k + 1 → szV (domJ Ks m lev j) ≤ 1 ∨ tkR R j ≤ 0 := fun z q j hj => by
                  by_cases e : j = k
                  · rw [e]; exact q
                  · rcases hb with ⟨-, -, q3⟩ | ⟨q1, -⟩
                    · exact q3 j (by omega)
                    · omega
                first
                | (exfalso; omega)
                | (refine ih _ (by omega) (k + 1) best bs Ks _ _ rfl (by omega) hok har ?_
                   rcases hb with ⟨q1, q2, q3⟩ | ⟨q1, q2, q3, q4⟩
                   · exact Or.inl ⟨q1, q2, hno q1 (by omega)⟩
                   · exact Or.inr ⟨q1, by omega, q3, q4⟩)
                | exact ih _ (by omega) (k + 1) (k : Int) (szV (domJ Ks m lev k)) Ks _ _ rfl (by omega) hok har (Or.inr ⟨by omega, by omega, rfl, by omega⟩)
              · refine q_iload hG rfl rfl ?_
                refine q_goto hG rfl ?_
                refine q_istore_n hG rfl rfl ?_
                refine q_iinc (c := 1) hG rfl rfl rfl rfl ?_
                refine q_goto hG rfl ?_
                have hno : best = -1 → (szV (domJ Ks m lev k) ≤ 1 ∨ tkR R k ≤ 0) → ∀ j, j < k + 1 → szV (domJ Ks m lev j) ≤ 1 ∨ tkR R j ≤ 0 := fun z q j hj => by
                  by_cases e : j = k
                  · rw [e]; exact q
                  · rcases hb with ⟨-, -, q3⟩ | ⟨q1, -⟩
                    · exact q3 j (by omega)
                    · omega
                first
                | (exfalso; omega)
                | (refine ih _ (by omega) (k + 1) best bs Ks _ _ rfl (by omega) hok har ?_
                   rcases hb with ⟨q1, q2, q3⟩ | ⟨q1, q2, q3, q4⟩
                   · exact Or.inl ⟨q1, q2, hno q1 (by omega)⟩
                   · exact Or.inr ⟨q1, by omega, q3, q4⟩)
                | exact ih _ (by omega) (k + 1) (k : Int) (szV (domJ Ks m lev k)) Ks _ _ rfl (by omega) hok har (Or.inr ⟨by omega, by omega, rfl, by omega⟩)
  show G 0 [some (.ref m), some (.int (i3 ((lev : Int)))), none, none, none, none, none] [] (wI (wL B Js) I)
  refine q_aload_n hG rfl rfl ?_
  refine q_iload_n hG rfl rfl ?_
  refine q_callV6 hG rfl rfl rfl (by assumption) (s_R_open hm0 hR0 hW0 (by omega) hv (fun Ks o1 o2 o3 o4 o5 => ?_) (fun Ks o1 o2 => ?_))
  · refine q_if_ne hG rfl ⟨by omega, by omega⟩ (fun _ => ?_) (fun q => absurd (by decide) q)
    refine q_iconst (v := -1) hG rfl rfl ?_
    refine q_istore_n hG rfl rfl ?_
    refine q_bipush (v := 42) hG rfl rfl ?_
    refine q_istore_n hG rfl rfl ?_
    refine q_iconst (v := 0) hG rfl rfl ?_
    refine q_istore hG rfl rfl ?_
    exact lp _ 0 (-1) 42 Ks none none rfl (by omega) (okL.mk hd0 hne hop o1 o2 o3 o4) o5 (Or.inl ⟨rfl, rfl, fun j hj => by omega⟩)
  · refine q_if_ne hG rfl ⟨by omega, by omega⟩ (fun q => absurd q (by decide)) (fun _ => ?_)
    refine q_iconst (v := 0) hG rfl rfl ?_
    refine q_iret5 hG rfl rfl (by decide) ?_
    exact p0 Ks o1.g o2
theorem s_R_solv {B : HP} {I : IM} {m : Nat} (hm : oM B m) {R : RW} (hR0 : ∀ j, j < 79 → I (m + 1) j = R j) {q : Int} (hW : WfR q R) : ∀ f lev : Nat, lev + f = 7 → solP B I R m lev (2 * f + 4) := by
  intro f
  induction f with
  | zero =>
    intro lev h d Js Post a b c p1 p0
    have e : d + (2 * 0 + 4) = d + 0 + 4 := by omega
    rw [e]
    exact s_R_solv1 (n := 0) hm hR0 hW (by omega) a b c (fun z => by omega) p1 p0
  | succ f ih =>
    intro lev h d Js Post a b c p1 p0
    have e : d + (2 * (f + 1) + 4) = d + (2 * f + 2) + 4 := by omega
    have e2 : 2 * f + 2 + 2 = 2 * f + 4 := by omega
    rw [e]
    exact s_R_solv1 (n := 2 * f + 2) hm hR0 hW (by omega) a b c (fun _ => by rw [e2]; exact ih (lev + 1) (by omega)) p1 p0
