/-! the reference: open domains -/
def wL (B : HP) (Js : Nat → Nat → Int64) : HP := (B.1, B.2.1, Js, B.2.2.2)
theorem wL_self (B : HP) : wL B (hJ B) = B := rfl
section
variable {S : SpecT} {M : MDT} {Post : Out → HP → Prop} {G : Nat → LV → List Value → HP → Prop} {pc nx : Nat} {cst : Int32} {x : List Nat} {L : LV} {r : List Value}
theorem q_lastL (hG : Cl S M Post G) {B : HP} {I : IM} {Js : Nat → Nat → Int64} {a n : Nat} {j : Int} {v : _} (hl : lk pc M.1 = some (.lastore, nx, cst, x)) (hk : hK B a = (2, n)) (hj : 0 ≤ j ∧ j < (n : Int) ∧ j < 2147483648) (h : G nx L r (wI (wL B (up2 Js a j.toNat v)) I)) : G pc L (.long v :: .int (i3 j) :: .ref a :: r) (wI (wL B Js) I) := q_last (B := wL B Js) hG hl hk hj h
theorem q_laldv (hG : Cl S M Post G) {B : HP} {I : IM} {Js : Nat → Nat → Int64} {a n : Nat} {j : Int} {v : Int64} (hl : lk pc M.1 = some (.laload, nx, cst, x)) (hk : hK B a = (2, n)) (hj : 0 ≤ j ∧ j < (n : Int) ∧ j < 2147483648) (hv : Js a j.toNat = v) (h : G nx L (.long v :: r) (wI (wL B Js) I)) : G pc L (.int (i3 j) :: .ref a :: r) (wI (wL B Js) I) := q_lald (A := wI (wL B Js) I) hG hl hk hj (by
  show G nx L (.long (Js a j.toNat) :: r) _
  rw [hv]
  exact h)
end
/-- the domains of a level -/
def domJ (Js : Nat → Nat → Int64) (m lev : Nat) : DM := fun k => Js (m + 2) (6 * lev + k)
theorem dom_up {Js : Nat → Nat → Int64} {m lev i : Nat} {v : Int64} {k : Nat} (e : i = 6 * lev + k) : domJ (up2 Js (m + 2) i v) m lev = updD (domJ Js m lev) k v := by
  funext j
  unfold domJ updD up2
  by_cases h : j = k
  · rw [if_pos h, if_pos ⟨rfl, by omega⟩]
  · rw [if_neg h, if_neg (fun q => by omega)]
theorem up2_ne {Js : Nat → Nat → Int64} {a i b j : Nat} {v : Int64} (h : ¬ (b = a ∧ j = i)) : up2 Js a i v b j = Js b j := if_neg h
/-- only the level's longs change -/
def lfr (m lev : Nat) (Js Ks : Nat → Nat → Int64) : Prop := ∀ a j, ¬ (a = m + 2 ∧ 6 * lev ≤ j ∧ j < 6 * lev + 6) → Ks a j = Js a j
theorem lfr.refl {m lev : Nat} (Js : Nat → Nat → Int64) : lfr m lev Js Js := fun _ _ _ => rfl
theorem lfr.up {m lev k : Nat} {Js Ks : Nat → Nat → Int64} {v : Int64} {i : Nat} (h : lfr m lev Js Ks) (e : i = 6 * lev + k) (hk : k < 6) : lfr m lev Js (up2 Ks (m + 2) i v) := fun a j q => by
  rw [up2_ne (fun z => q ⟨z.1, by omega, by omega⟩)]
  exact h a j q
def subD (D E : DM) : Prop := (∀ k j, bt (D k) j = true → bt (E k) j = true) ∧ ∀ k, D k = 0 → E k = 0
theorem subD.refl (D : DM) : subD D D := ⟨fun _ _ h => h, fun _ h => h⟩
theorem subD.trans {D E F : DM} (h : subD D E) (h2 : subD E F) : subD D F := ⟨fun k j q => h2.1 k j (h.1 k j q), fun k q => h2.2 k (h.2 k q)⟩
theorem sub_up {D : DM} {x : Nat} {v : Int64} (h : ∀ j, bt v j = true → bt (D x) j = true) (h0 : v ≠ 0) : subD (updD D x v) D := ⟨fun k j q => by
  unfold updD at q
  split at q
  · rename_i e; rw [e]; exact h j q
  · exact q, fun k q => by
  unfold updD at q
  split at q
  · exact absurd q h0
  · exact q⟩
theorem sub_and (u r : Int64) : ∀ j, bt (u &&& r) j = true → bt u j = true := fun j h => by
  rw [bt_and, Bool.and_eq_true] at h
  exact h.1
/-- all domains are sets of heights -/
def vdD (D : DM) : Prop := ∀ k, k < 6 → vd (D k)
theorem vdD_up {D : DM} (h : vdD D) {x : Nat} {v : Int64} (hv : vd v) : vdD (updD D x v) := fun k hk => by
  unfold updD
  split
  · exact hv
  · exact h k hk
theorem sol_stepE {c : CN} {n d i : Nat} {D : DM} {r1 r2 : Int64} {K g : Int} {F S : Nat} (e : c i = (K, F, S, g)) (hi : i < n) (hF : F < d) (hS : S < d) (hne : F ≠ S) (hv : ∀ k, k < d → vd (D k)) (g1 : gwR K g 1 (D F) r1) (g2 : gwR K g 0 (D S &&& r1) r2) {p : Nat → Nat} (hp : solD c n d D p) : solD c n d (updD (updD D S (D S &&& r1)) F (D F &&& r2)) p := by
  have q := @sol_step c n d i D r1 r2 hi
  rw [e] at q
  exact q hF hS hne hv g1 g2 hp
theorem sol_noE {c : CN} {n d i : Nat} {D : DM} {r1 r2 : Int64} {K g : Int} {F S : Nat} (e : c i = (K, F, S, g)) (hi : i < n) (hF : F < d) (hS : S < d) (hne : F ≠ S) (hv : ∀ k, k < d → vd (D k)) (g1 : gwR K g 1 (D F) r1) (g2 : gwR K g 0 (D S &&& r1) r2) (h0 : D F &&& r2 = 0 ∨ D S &&& r1 = 0) (p : Nat → Nat) : ¬ solD c n d D p := fun hp => by
  have q := sol_stepE e hi hF hS hne hv g1 g2 hp
  have qF := q.1 F hF
  have qS := q.1 S hS
  rw [updD_same] at qF
  rw [updD_ne _ _ hne.symm, updD_same] at qS
  rcases h0 with h | h
  · rw [h, bt_zero] at qF; exact absurd qF (by decide)
  · rw [h, bt_zero] at qS; exact absurd qS (by decide)
theorem arc_sameE {c : CN} {i : Nat} {D : DM} {r1 r2 : Int64} {K g : Int} {F S : Nat} (e : c i = (K, F, S, g)) (g1 : gwR K g 1 (D F) r1) (g2 : gwR K g 0 (D S &&& r1) r2) (e1 : D S &&& r1 = D S) (e2 : D F &&& r2 = D F) (h1 : D F ≠ 0) (h2 : D S ≠ 0) : arcD (c i).1 (c i).2.1 (c i).2.2.1 (c i).2.2.2 D := by
  rw [e]
  exact arc_same g1 g2 e1 e2 h1 h2

set_option maxHeartbeats 6000000 in
theorem s_R_open {d : Nat} {B : HP} {I : IM} {Post : Out → HP → Prop} {m lev : Nat} (hm : oM B m) {R : RW} (hR0 : ∀ j, j < 79 → I (m + 1) j = R j) {q : Int} (hW : WfR q R) (hlev : lev ≤ 8) {Js : Nat → Nat → Int64} (hv : vdD (domJ Js m lev)) (p1 : ∀ Ks, lfr m lev Js Ks → vdD (domJ Ks m lev) → subD (domJ Ks m lev) (domJ Js m lev) → (∀ p, solD (cnR R) (R 1).toNat (R 0).toNat (domJ Js m lev) p → solD (cnR R) (R 1).toNat (R 0).toNat (domJ Ks m lev) p) → (∀ i, i < (R 1).toNat → arcD (cnR R i).1 (cnR R i).2.1 (cnR R i).2.2.1 (cnR R i).2.2.2 (domJ Ks m lev)) → Post (.inl (some (.int (i3 1)))) (wI (wL B Ks) I)) (p0 : ∀ Ks, lfr m lev Js Ks → (∀ p, ¬ solD (cnR R) (R 1).toNat (R 0).toNat (domJ Js m lev) p) → Post (.inl (some (.int (i3 0)))) (wI (wL B Ks) I)) : Sp (d + 3) k_X9_isOpen [.ref m, .int (i3 ((lev : Int)))] (wI (wL B Js) I) Post := by
  refine Sp_intro md_X9_isOpen rfl rfl (fun G hG => ?_)
  have hm0 := hm
  obtain ⟨n1, n2, n3, n4, n5, n6, n7, n8, n9, n10, n11⟩ := hm
  have hcnk : ∀ k : Nat, cnR R k = (R (29 + 5 * k + 1), (R (29 + 5 * k + 2)).toNat, (R (29 + 5 * k + 3)).toNat, R (29 + 5 * k + 4)) := fun _ => rfl
  have hmL : ∀ Js, oM (wL B Js) m := fun _ => hm0
  obtain ⟨w0, w1, w2, w3, w4, wd, wc⟩ := hW
  have lq : ∀ (mz : Nat) (k : Nat) (Ks : Nat → Nat → Int64) (z : Int) (D0 : DM) (v4 : Option Value) (v5 : Option Value) (v6 : Option Value) (v7 : Option Value) (v8 : Option Value) (v9 : Option Value), (R 1).toNat - k = mz → k ≤ (R 1).toNat → (z = 0 ∨ z = 1) → lfr m lev Js Ks → vdD (domJ Ks m lev) → subD (domJ Ks m lev) (domJ Js m lev) → (∀ p, solD (cnR R) (R 1).toNat (R 0).toNat (domJ Js m lev) p → solD (cnR R) (R 1).toNat (R 0).toNat (domJ Ks m lev) p) → (z = 0 → (domJ Ks m lev) = D0 ∧ ∀ i, i < k → arcD (cnR R i).1 (cnR R i).2.1 (cnR R i).2.2.1 (cnR R i).2.2.2 (domJ Ks m lev)) → (z = 1 → szS (domJ Ks m lev) < szS D0) → szS (domJ Ks m lev) ≤ szS D0 → (∀ (Ks : Nat → Nat → Int64) (z : Int) (v3 v4 v5 v6 v7 v8 v9 : Option Value), (z = 0 ∨ z = 1) → lfr m lev Js Ks → vdD (domJ Ks m lev) → subD (domJ Ks m lev) (domJ Js m lev) → (∀ p, solD (cnR R) (R 1).toNat (R 0).toNat (domJ Js m lev) p → solD (cnR R) (R 1).toNat (R 0).toNat (domJ Ks m lev) p) → (z = 0 → (domJ Ks m lev) = D0 ∧ ∀ i, i < (R 1).toNat → arcD (cnR R i).1 (cnR R i).2.1 (cnR R i).2.2.1 (cnR R i).2.2.2 (domJ Ks m lev)) → (z = 1 → szS (domJ Ks m lev) < szS D0) → G 2 [some (.ref m), some (.int (i3 (lev : Int))), some (.int (i3 z)), v3, v4, v5, v6, v7, v8, v9] [] (wI (wL B Ks) I)) → G 10 [some (.ref m), some (.int (i3 (lev : Int))), some (.int (i3 z)), some (.int (i3 (k : Int))), v4, v5, v6, v7, v8, v9] [] (wI (wL B Ks) I) := by
    intro mz
    induction mz using Nat.strongRecOn with
    | ind mz ih =>
      intro k Ks z D0 v4 v5 v6 v7 v8 v9 hme hk hz hfr hvd hsb hso h0 h1 hle hEx
      refine q_iload_n hG rfl rfl ?_
      refine q_aload_n hG rfl rfl ?_
      refine q_getR hG rfl (by assumption) (by assumption) ?_
      refine q_iconst (v := 1) hG rfl rfl ?_
      refine q_ialdv (v := R 1) hG rfl (by assumption) ⟨by omega, by omega, by omega⟩ (hR0 1 (by omega)) ?_
      refine q_icmp_ge hG rfl ⟨by omega, by omega⟩ ⟨by omega, by omega⟩ (fun hc17 => ?_) (fun hc17 => ?_)
      · refine q_goto hG rfl ?_
        exact hEx Ks z _ _ _ _ _ _ _ hz hfr hvd hsb hso (fun q => ⟨(h0 q).1, fun i hi => (h0 q).2 i (by omega)⟩) h1
      · obtain ⟨y1, y2, y3, y4, y5, y6, y7⟩ := wc k (by omega)
        have hF9 : (R (29 + 5 * k + 2)).toNat < (R 0).toNat := by omega
        have hS9 : (R (29 + 5 * k + 3)).toNat < (R 0).toNat := by omega
        have hne9 : (R (29 + 5 * k + 2)).toNat ≠ (R (29 + 5 * k + 3)).toNat := by omega
        have hvd9 : ∀ j, j < (R 0).toNat → vd (domJ Ks m lev j) := fun j hj => hvd j (by omega)
        refine q_bipush (v := 6) hG rfl rfl ?_
        refine q_iload_n hG rfl rfl ?_
        refine q_imul hG rfl ?_
        refine q_aload_n hG rfl rfl ?_
        refine q_iload_n hG rfl rfl ?_
        refine q_iconst (v := 2) hG rfl rfl ?_
        refine q_callV6 hG rfl rfl rfl (by assumption) (s_R_cN (x := k) (w := 2) (hmL _) (by omega) (by decide) ?_)
        rw [show cR I m k 2 = R (29 + 5 * k + 2) from hR0 _ (by omega)]
        refine q_iadd hG rfl ?_
        refine q_istore hG rfl rfl ?_
        refine q_bipush (v := 6) hG rfl rfl ?_
        refine q_iload_n hG rfl rfl ?_
        refine q_imul hG rfl ?_
        refine q_aload_n hG rfl rfl ?_
        refine q_iload_n hG rfl rfl ?_
        refine q_iconst (v := 3) hG rfl rfl ?_
        refine q_callV6 hG rfl rfl rfl (by assumption) (s_R_cN (x := k) (w := 3) (hmL _) (by omega) (by decide) ?_)
        rw [show cR I m k 3 = R (29 + 5 * k + 3) from hR0 _ (by omega)]
        refine q_iadd hG rfl ?_
        refine q_istore hG rfl rfl ?_
        refine q_aload_n hG rfl rfl ?_
        refine q_getR hG rfl (by assumption) (by assumption) ?_
        refine q_iload hG rfl rfl ?_
        refine q_laldv (v := domJ Ks m lev (R (29 + 5 * k + 2)).toNat) hG rfl (by assumption) ⟨by omega, by omega, by omega⟩ (congrArg (Ks (m + 2)) (by omega)) ?_
        refine q_lstore hG rfl rfl ?_
        refine q_aload_n hG rfl rfl ?_
        refine q_getR hG rfl (by assumption) (by assumption) ?_
        refine q_iload hG rfl rfl ?_
        refine q_laldv (v := domJ Ks m lev (R (29 + 5 * k + 3)).toNat) hG rfl (by assumption) ⟨by omega, by omega, by omega⟩ (congrArg (Ks (m + 2)) (by omega)) ?_
        refine q_lstore hG rfl rfl ?_
        refine q_aload_n hG rfl rfl ?_
        refine q_getR hG rfl (by assumption) (by assumption) ?_
        refine q_iload hG rfl rfl ?_
        refine q_dup2 hG rfl rfl rfl ?_
        refine q_laldv (v := domJ Ks m lev (R (29 + 5 * k + 3)).toNat) hG rfl (by assumption) ⟨by omega, by omega, by omega⟩ (congrArg (Ks (m + 2)) (by omega)) ?_
        refine q_aload_n hG rfl rfl ?_
        refine q_iload_n hG rfl rfl ?_
        refine q_iconst (v := 1) hG rfl rfl ?_
        refine q_callV6 hG rfl rfl rfl (by assumption) (s_R_cN (x := k) (w := 1) (hmL _) (by omega) (by decide) ?_)
        rw [show cR I m k 1 = R (29 + 5 * k + 1) from hR0 _ (by omega)]
        refine q_aload_n hG rfl rfl ?_
        refine q_getR hG rfl (by assumption) (by assumption) ?_
        refine q_iload hG rfl rfl ?_
        refine q_laldv (v := domJ Ks m lev (R (29 + 5 * k + 2)).toNat) hG rfl (by assumption) ⟨by omega, by omega, by omega⟩ (congrArg (Ks (m + 2)) (by omega)) ?_
        refine q_aload_n hG rfl rfl ?_
        refine q_iload_n hG rfl rfl ?_
        refine q_iconst (v := 4) hG rfl rfl ?_
        refine q_callV6 hG rfl rfl rfl (by assumption) (s_R_cN (x := k) (w := 4) (hmL _) (by omega) (by decide) ?_)
        rw [show cR I m k 4 = R (29 + 5 * k + 4) from hR0 _ (by omega)]
        refine q_iconst (v := 1) hG rfl rfl ?_
        refine q_callS0 hG rfl rfl rfl (s_R_goesW (hvd _ (by omega)) y2 ⟨by omega, by omega⟩ (by decide) (fun r1 g1 => ?_))
        refine q_land hG rfl ?_
        refine q_lastL hG rfl (by assumption) ⟨by omega, by omega, by omega⟩ ?_
        refine q_aload_n hG rfl rfl ?_
        refine q_getR hG rfl (by assumption) (by assumption) ?_
        refine q_iload hG rfl rfl ?_
        refine q_dup2 hG rfl rfl rfl ?_
        refine q_laldv (v := domJ Ks m lev (R (29 + 5 * k + 2)).toNat) hG rfl (by assumption) ⟨by omega, by omega, by omega⟩ (by rw [up2_ne (by omega)]; exact congrArg (Ks (m + 2)) (by omega)) ?_
        refine q_aload_n hG rfl rfl ?_
        refine q_iload_n hG rfl rfl ?_
        refine q_iconst (v := 1) hG rfl rfl ?_
        refine q_callV6 hG rfl rfl rfl (by assumption) (s_R_cN (x := k) (w := 1) (hmL _) (by omega) (by decide) ?_)
        rw [show cR I m k 1 = R (29 + 5 * k + 1) from hR0 _ (by omega)]
        refine q_aload_n hG rfl rfl ?_
        refine q_getR hG rfl (by assumption) (by assumption) ?_
        refine q_iload hG rfl rfl ?_
        refine q_laldv (v := domJ Ks m lev (R (29 + 5 * k + 3)).toNat &&& r1) hG rfl (by assumption) ⟨by omega, by omega, by omega⟩ (if_pos ⟨rfl, rfl⟩) ?_
        refine q_aload_n hG rfl rfl ?_
        refine q_iload_n hG rfl rfl ?_
        refine q_iconst (v := 4) hG rfl rfl ?_
        refine q_callV6 hG rfl rfl rfl (by assumption) (s_R_cN (x := k) (w := 4) (hmL _) (by omega) (by decide) ?_)
        rw [show cR I m k 4 = R (29 + 5 * k + 4) from hR0 _ (by omega)]
        refine q_iconst (v := 0) hG rfl rfl ?_
        refine q_callS0 hG rfl rfl rfl (s_R_goesW (vd_and (hvd _ (by omega))) y2 ⟨by omega, by omega⟩ (by decide) (fun r2 g2 => ?_))
        refine q_land hG rfl ?_
        refine q_lastL hG rfl (by assumption) ⟨by omega, by omega, by omega⟩ ?_
        refine q_aload_n hG rfl rfl ?_
        refine q_getR hG rfl (by assumption) (by assumption) ?_
        refine q_iload hG rfl rfl ?_
        refine q_laldv (v := domJ Ks m lev (R (29 + 5 * k + 2)).toNat &&& r2) hG rfl (by assumption) ⟨by omega, by omega, by omega⟩ (if_pos ⟨rfl, rfl⟩) ?_
        refine q_lconst0 hG rfl ?_
        refine q_lcmpv hG rfl ?_
        refine q_if_eq hG rfl (lgc_r _ _) (fun hc139 => ?_) (fun hc139 => ?_)
        · refine q_iconst (v := 0) hG rfl rfl ?_
          refine q_iret5 hG rfl rfl (by decide) ?_
          refine p0 _ ((hfr.up (k := (R (29 + 5 * k + 3)).toNat) (by omega) (by omega)).up (k := (R (29 + 5 * k + 2)).toNat) (by omega) (by omega)) (fun p hp => ?_)
          refine sol_noE (hcnk k) (by omega) hF9 hS9 hne9 hvd9 g1 g2 ?_ p (hso p hp)
          first
          | exact Or.inl (lgc_0.mp hc139)
          | exact Or.inr (lgc_0.mp hc151)
          | exact Or.inr (lgc_0.mp (Decidable.not_not.mp hc151))
        · refine q_aload_n hG rfl rfl ?_
          refine q_getR hG rfl (by assumption) (by assumption) ?_
          refine q_iload hG rfl rfl ?_
          refine q_laldv (v := domJ Ks m lev (R (29 + 5 * k + 3)).toNat &&& r1) hG rfl (by assumption) ⟨by omega, by omega, by omega⟩ (by rw [up2_ne (by omega)]; exact if_pos ⟨rfl, rfl⟩) ?_
          refine q_lconst0 hG rfl ?_
          refine q_lcmpv hG rfl ?_
          refine q_if_ne hG rfl (lgc_r _ _) (fun hc151 => ?_) (fun hc151 => ?_)
          · refine q_iload_n hG rfl rfl ?_
            refine q_lload hG rfl rfl ?_
            refine q_aload_n hG rfl rfl ?_
            refine q_getR hG rfl (by assumption) (by assumption) ?_
            refine q_iload hG rfl rfl ?_
            refine q_laldv (v := domJ Ks m lev (R (29 + 5 * k + 2)).toNat &&& r2) hG rfl (by assumption) ⟨by omega, by omega, by omega⟩ (if_pos ⟨rfl, rfl⟩) ?_
            refine q_lcmpv hG rfl ?_
            refine q_if_ne hG rfl (lgc_r _ _) (fun hc167 => ?_) (fun hc167 => ?_)
            · refine q_iconst (v := 1) hG rfl rfl ?_
              refine q_goto hG rfl ?_
              refine q_ior hG rfl (by omega) (by omega) ?_
              refine q_istore_n hG rfl rfl ?_
              refine q_iinc (c := 1) hG rfl rfl rfl rfl ?_
              refine q_goto hG rfl ?_
              have eD : domJ (up2 (up2 Ks (m + 2) (6 * (lev : Int) + R (29 + 5 * k + 3)).toNat (domJ Ks m lev (R (29 + 5 * k + 3)).toNat &&& r1)) (m + 2) (6 * (lev : Int) + R (29 + 5 * k + 2)).toNat (domJ Ks m lev (R (29 + 5 * k + 2)).toNat &&& r2)) m lev = updD (updD (domJ Ks m lev) (R (29 + 5 * k + 3)).toNat (domJ Ks m lev (R (29 + 5 * k + 3)).toNat &&& r1)) (R (29 + 5 * k + 2)).toNat (domJ Ks m lev (R (29 + 5 * k + 2)).toNat &&& r2) := by
                rw [dom_up (k := (R (29 + 5 * k + 2)).toNat) (by omega), dom_up (k := (R (29 + 5 * k + 3)).toNat) (by omega)]
              have sF := szV_and (u := domJ Ks m lev (R (29 + 5 * k + 2)).toNat) (r := r2) (hvd _ (by omega))
              have sS := szV_and (u := domJ Ks m lev (R (29 + 5 * k + 3)).toNat) (r := r1) (hvd _ (by omega))
              have eZ : szS (updD (updD (domJ Ks m lev) (R (29 + 5 * k + 3)).toNat (domJ Ks m lev (R (29 + 5 * k + 3)).toNat &&& r1)) (R (29 + 5 * k + 2)).toNat (domJ Ks m lev (R (29 + 5 * k + 2)).toNat &&& r2)) = szS (domJ Ks m lev) + (szV (domJ Ks m lev (R (29 + 5 * k + 3)).toNat &&& r1) - szV (domJ Ks m lev (R (29 + 5 * k + 3)).toNat)) + (szV (domJ Ks m lev (R (29 + 5 * k + 2)).toNat &&& r2) - szV (domJ Ks m lev (R (29 + 5 * k + 2)).toNat)) := by
                rw [szS_up (by omega), szS_up (by omega), updD_ne _ _ (show (R (29 + 5 * k + 2)).toNat ≠ (R (29 + 5 * k + 3)).toNat by omega)]
              refine ih _ (by omega) (k + 1) _ _ D0 _ _ _ _ _ _ rfl (by omega) ?_ ((hfr.up (k := (R (29 + 5 * k + 3)).toNat) (by omega) (by omega)).up (k := (R (29 + 5 * k + 2)).toNat) (by omega) (by omega)) ?_ ?_ ?_ ?_ ?_ ?_ hEx
              · split <;> omega
              · rw [eD]
                exact vdD_up (vdD_up hvd (vd_and (hvd _ (by omega)))) (vd_and (hvd _ (by omega)))
              · rw [eD]
                refine subD.trans (subD.trans (sub_up (fun j hj => ?_) (fun z => hc139 (lgc_0.mpr z))) (sub_up (sub_and _ _) (fun z => hc151 (lgc_0.mpr z)))) hsb
                rw [updD_ne _ _ (show (R (29 + 5 * k + 2)).toNat ≠ (R (29 + 5 * k + 3)).toNat by omega)]
                exact sub_and _ _ j hj
              · intro p hp
                rw [eD]
                exact sol_stepE (hcnk k) (by omega) hF9 hS9 hne9 hvd9 g1 g2 (hso p hp)
              · intro q0
                exfalso
                rw [if_pos (Or.inr rfl)] at q0
                exact absurd q0 (by decide)
              · intro q1
                rw [eD, eZ]
                have n1 : domJ Ks m lev (R (29 + 5 * k + 2)).toNat &&& r2 ≠ domJ Ks m lev (R (29 + 5 * k + 2)).toNat := fun z => hc167 (lgc_0.mpr z.symm)
                have := sF.2 n1
                omega
              · rw [eD, eZ]
                omega
            · refine q_lload hG rfl rfl ?_
              refine q_aload_n hG rfl rfl ?_
              refine q_getR hG rfl (by assumption) (by assumption) ?_
              refine q_iload hG rfl rfl ?_
              refine q_laldv (v := domJ Ks m lev (R (29 + 5 * k + 3)).toNat &&& r1) hG rfl (by assumption) ⟨by omega, by omega, by omega⟩ (by rw [up2_ne (by omega)]; exact if_pos ⟨rfl, rfl⟩) ?_
              refine q_lcmpv hG rfl ?_
              refine q_if_eq hG rfl (lgc_r _ _) (fun hc180 => ?_) (fun hc180 => ?_)
              · refine q_iconst (v := 0) hG rfl rfl ?_
                refine q_ior hG rfl (by omega) (by omega) ?_
                refine q_istore_n hG rfl rfl ?_
                refine q_iinc (c := 1) hG rfl rfl rfl rfl ?_
                refine q_goto hG rfl ?_
                have eD : domJ (up2 (up2 Ks (m + 2) (6 * (lev : Int) + R (29 + 5 * k + 3)).toNat (domJ Ks m lev (R (29 + 5 * k + 3)).toNat &&& r1)) (m + 2) (6 * (lev : Int) + R (29 + 5 * k + 2)).toNat (domJ Ks m lev (R (29 + 5 * k + 2)).toNat &&& r2)) m lev = updD (updD (domJ Ks m lev) (R (29 + 5 * k + 3)).toNat (domJ Ks m lev (R (29 + 5 * k + 3)).toNat &&& r1)) (R (29 + 5 * k + 2)).toNat (domJ Ks m lev (R (29 + 5 * k + 2)).toNat &&& r2) := by
                  rw [dom_up (k := (R (29 + 5 * k + 2)).toNat) (by omega), dom_up (k := (R (29 + 5 * k + 3)).toNat) (by omega)]
                have sF := szV_and (u := domJ Ks m lev (R (29 + 5 * k + 2)).toNat) (r := r2) (hvd _ (by omega))
                have sS := szV_and (u := domJ Ks m lev (R (29 + 5 * k + 3)).toNat) (r := r1) (hvd _ (by omega))
                have eZ : szS (updD (updD (domJ Ks m lev) (R (29 + 5 * k + 3)).toNat (domJ Ks m lev (R (29 + 5 * k + 3)).toNat &&& r1)) (R (29 + 5 * k + 2)).toNat (domJ Ks m lev (R (29 + 5 * k + 2)).toNat &&& r2)) = szS (domJ Ks m lev) + (szV (domJ Ks m lev (R (29 + 5 * k + 3)).toNat &&& r1) - szV (domJ Ks m lev (R (29 + 5 * k + 3)).toNat)) + (szV (domJ Ks m lev (R (29 + 5 * k + 2)).toNat &&& r2) - szV (domJ Ks m lev (R (29 + 5 * k + 2)).toNat)) := by
                  rw [szS_up (by omega), szS_up (by omega), updD_ne _ _ (show (R (29 + 5 * k + 2)).toNat ≠ (R (29 + 5 * k + 3)).toNat by omega)]
                refine ih _ (by omega) (k + 1) _ _ D0 _ _ _ _ _ _ rfl (by omega) ?_ ((hfr.up (k := (R (29 + 5 * k + 3)).toNat) (by omega) (by omega)).up (k := (R (29 + 5 * k + 2)).toNat) (by omega) (by omega)) ?_ ?_ ?_ ?_ ?_ ?_ hEx
                · split <;> omega
                · rw [eD]
                  exact vdD_up (vdD_up hvd (vd_and (hvd _ (by omega)))) (vd_and (hvd _ (by omega)))
                · rw [eD]
                  refine subD.trans (subD.trans (sub_up (fun j hj => ?_) (fun z => hc139 (lgc_0.mpr z))) (sub_up (sub_and _ _) (fun z => hc151 (lgc_0.mpr z)))) hsb
                  rw [updD_ne _ _ (show (R (29 + 5 * k + 2)).toNat ≠ (R (29 + 5 * k + 3)).toNat by omega)]
                  exact sub_and _ _ j hj
                · intro p hp
                  rw [eD]
                  exact sol_stepE (hcnk k) (by omega) hF9 hS9 hne9 hvd9 g1 g2 (hso p hp)
                · intro q0
                  have ef : domJ Ks m lev (R (29 + 5 * k + 2)).toNat &&& r2 = domJ Ks m lev (R (29 + 5 * k + 2)).toNat := (lgc_0.mp (Decidable.not_not.mp hc167)).symm
                  have es : domJ Ks m lev (R (29 + 5 * k + 3)).toNat &&& r1 = domJ Ks m lev (R (29 + 5 * k + 3)).toNat := (lgc_0.mp hc180).symm
                  have eid : updD (updD (domJ Ks m lev) (R (29 + 5 * k + 3)).toNat (domJ Ks m lev (R (29 + 5 * k + 3)).toNat &&& r1)) (R (29 + 5 * k + 2)).toNat (domJ Ks m lev (R (29 + 5 * k + 2)).toNat &&& r2) = domJ Ks m lev := by
                    rw [es, ef]
                    funext j
                    unfold updD
                    split
                    · rename_i e; rw [e]
                    · split
                      · rename_i e; rw [e]
                      · rfl
                  have z0 : z = 0 := by
                    by_cases e : z = 1
                    · rw [if_pos (Or.inl e)] at q0; exact absurd q0 (by decide)
                    · omega
                  obtain ⟨a1, a2⟩ := h0 z0
                  rw [eD, eid]
                  refine ⟨a1, fun i hi => ?_⟩
                  by_cases e : i = k
                  · rw [e]
                    refine arc_sameE (hcnk k) g1 g2 es ef (fun z => ?_) (fun z => ?_)
                    · exact hc139 (lgc_0.mpr (ef.trans z))
                    · exact hc151 (lgc_0.mpr (es.trans z))
                  · exact a2 i (by omega)
                · intro q1
                  rw [eD, eZ]
                  have z1 : z = 1 := by
                    by_cases e : z = 1
                    · exact e
                    · rw [if_neg (by omega)] at q1; exact absurd q1 (by decide)
                  have := h1 z1
                  omega
                · rw [eD, eZ]
                  omega
              · refine q_iconst (v := 1) hG rfl rfl ?_
                refine q_goto hG rfl ?_
                refine q_ior hG rfl (by omega) (by omega) ?_
                refine q_istore_n hG rfl rfl ?_
                refine q_iinc (c := 1) hG rfl rfl rfl rfl ?_
                refine q_goto hG rfl ?_
                have eD : domJ (up2 (up2 Ks (m + 2) (6 * (lev : Int) + R (29 + 5 * k + 3)).toNat (domJ Ks m lev (R (29 + 5 * k + 3)).toNat &&& r1)) (m + 2) (6 * (lev : Int) + R (29 + 5 * k + 2)).toNat (domJ Ks m lev (R (29 + 5 * k + 2)).toNat &&& r2)) m lev = updD (updD (domJ Ks m lev) (R (29 + 5 * k + 3)).toNat (domJ Ks m lev (R (29 + 5 * k + 3)).toNat &&& r1)) (R (29 + 5 * k + 2)).toNat (domJ Ks m lev (R (29 + 5 * k + 2)).toNat &&& r2) := by
                  rw [dom_up (k := (R (29 + 5 * k + 2)).toNat) (by omega), dom_up (k := (R (29 + 5 * k + 3)).toNat) (by omega)]
                have sF := szV_and (u := domJ Ks m lev (R (29 + 5 * k + 2)).toNat) (r := r2) (hvd _ (by omega))
                have sS := szV_and (u := domJ Ks m lev (R (29 + 5 * k + 3)).toNat) (r := r1) (hvd _ (by omega))
                have eZ : szS (updD (updD (domJ Ks m lev) (R (29 + 5 * k + 3)).toNat (domJ Ks m lev (R (29 + 5 * k + 3)).toNat &&& r1)) (R (29 + 5 * k + 2)).toNat (domJ Ks m lev (R (29 + 5 * k + 2)).toNat &&& r2)) = szS (domJ Ks m lev) + (szV (domJ Ks m lev (R (29 + 5 * k + 3)).toNat &&& r1) - szV (domJ Ks m lev (R (29 + 5 * k + 3)).toNat)) + (szV (domJ Ks m lev (R (29 + 5 * k + 2)).toNat &&& r2) - szV (domJ Ks m lev (R (29 + 5 * k + 2)).toNat)) := by
                  rw [szS_up (by omega), szS_up (by omega), updD_ne _ _ (show (R (29 + 5 * k + 2)).toNat ≠ (R (29 + 5 * k + 3)).toNat by omega)]
                refine ih _ (by omega) (k + 1) _ _ D0 _ _ _ _ _ _ rfl (by omega) ?_ ((hfr.up (k := (R (29 + 5 * k + 3)).toNat) (by omega) (by omega)).up (k := (R (29 + 5 * k + 2)).toNat) (by omega) (by omega)) ?_ ?_ ?_ ?_ ?_ ?_ hEx
                · split <;> omega
                · rw [eD]
                  exact vdD_up (vdD_up hvd (vd_and (hvd _ (by omega)))) (vd_and (hvd _ (by omega)))
                · rw [eD]
                  refine subD.trans (subD.trans (sub_up (fun j hj => ?_) (fun z => hc139 (lgc_0.mpr z))) (sub_up (sub_and _ _) (fun z => hc151 (lgc_0.mpr z)))) hsb
                  rw [updD_ne _ _ (show (R (29 + 5 * k + 2)).toNat ≠ (R (29 + 5 * k + 3)).toNat by omega)]
                  exact sub_and _ _ j hj
                · intro p hp
                  rw [eD]
                  exact sol_stepE (hcnk k) (by omega) hF9 hS9 hne9 hvd9 g1 g2 (hso p hp)
                · intro q0
                  exfalso
                  rw [if_pos (Or.inr rfl)] at q0
                  exact absurd q0 (by decide)
                · intro q1
                  rw [eD, eZ]
                  have n1 : domJ Ks m lev (R (29 + 5 * k + 3)).toNat &&& r1 ≠ domJ Ks m lev (R (29 + 5 * k + 3)).toNat := fun z => hc180 (lgc_0.mpr z.symm)
                  have := sS.2 n1
                  omega
                · rw [eD, eZ]
                  omega
          · refine q_iconst (v := 0) hG rfl rfl ?_
            refine q_iret5 hG rfl rfl (by decide) ?_
            refine p0 _ ((hfr.up (k := (R (29 + 5 * k + 3)).toNat) (by omega) (by omega)).up (k := (R (29 + 5 * k + 2)).toNat) (by omega) (by omega)) (fun p hp => ?_)
            refine sol_noE (hcnk k) (by omega) hF9 hS9 hne9 hvd9 g1 g2 ?_ p (hso p hp)
            first
            | exact Or.inl (lgc_0.mp hc139)
            | exact Or.inr (lgc_0.mp hc151)
            | exact Or.inr (lgc_0.mp (Decidable.not_not.mp hc151))
  have lp : ∀ (mz : Nat) (Ks : Nat → Nat → Int64) (z : Int) (v3 : Option Value) (v4 : Option Value) (v5 : Option Value) (v6 : Option Value) (v7 : Option Value) (v8 : Option Value) (v9 : Option Value), 2 * (szS (domJ Ks m lev)).toNat + z.toNat = mz → (z = 0 ∨ z = 1) → lfr m lev Js Ks → vdD (domJ Ks m lev) → subD (domJ Ks m lev) (domJ Js m lev) → (∀ p, solD (cnR R) (R 1).toNat (R 0).toNat (domJ Js m lev) p → solD (cnR R) (R 1).toNat (R 0).toNat (domJ Ks m lev) p) → (z = 0 → ∀ i, i < (R 1).toNat → arcD (cnR R i).1 (cnR R i).2.1 (cnR R i).2.2.1 (cnR R i).2.2.2 (domJ Ks m lev)) → G 2 [some (.ref m), some (.int (i3 (lev : Int))), some (.int (i3 z)), v3, v4, v5, v6, v7, v8, v9] [] (wI (wL B Ks) I) := by
    intro mz
    induction mz using Nat.strongRecOn with
    | ind mz ih =>
      intro Ks z v3 v4 v5 v6 v7 v8 v9 hme hz hfr hvd hsb hso har
      refine q_iload_n hG rfl rfl ?_
      refine q_if_eq hG rfl ⟨by omega, by omega⟩ (fun hc3 => ?_) (fun hc3 => ?_)
      · refine q_iconst (v := 1) hG rfl rfl ?_
        refine q_iret5 hG rfl rfl (by decide) ?_
        exact p1 Ks hfr hvd hsb hso (har (by omega))
      · refine q_iconst (v := 0) hG rfl rfl ?_
        refine q_istore_n hG rfl rfl ?_
        refine q_iconst (v := 0) hG rfl rfl ?_
        refine q_istore_n hG rfl rfl ?_
        refine lq _ 0 Ks 0 (domJ Ks m lev) _ _ _ _ _ _ rfl (by omega) (Or.inl rfl) hfr hvd hsb hso (fun _ => ⟨rfl, fun i hi => by omega⟩) (fun q => absurd q (by decide)) (Int.le_refl _) ?_
        intro Ks2 z2 u3 u4 u5 u6 u7 u8 u9 a1 a2 a3 a4 a5 a6 a7
        have sz0 : ∀ D : DM, 0 ≤ szS D := fun D => by
          have a := sm_bd (f := fun k => szV (D k)) (a := 0) (b := 41) 6 (fun k _ => by
            have s := sm_bd (f := fun j => if bt (D k) j then (1 : Int) else 0) (a := 0) (b := 1) 41 (fun j _ => by
              show 0 ≤ (if bt (D k) j = true then (1 : Int) else 0) ∧ (if bt (D k) j = true then (1 : Int) else 0) ≤ 1
              split <;> omega)
            show 0 ≤ sm (fun j => if bt (D k) j = true then (1 : Int) else 0) 41 ∧ sm (fun j => if bt (D k) j = true then (1 : Int) else 0) 41 ≤ 41
            omega)
          unfold szS
          omega
        have s1 := sz0 (domJ Ks m lev)
        have s2 := sz0 (domJ Ks2 m lev)
        refine ih _ ?_ Ks2 z2 u3 u4 u5 u6 u7 u8 u9 rfl a1 a2 a3 a4 a5 (fun q => (a6 q).2)
        rcases a1 with e | e
        · rw [(a6 e).1, e]; omega
        · have := a7 e; omega
  show G 0 [some (.ref m), some (.int (i3 ((lev : Int)))), none, none, none, none, none, none, none, none] [] (wI (wL B Js) I)
  refine q_iconst (v := 1) hG rfl rfl ?_
  refine q_istore_n hG rfl rfl ?_
  exact lp _ Js 1 none none none none none none none rfl (Or.inr rfl) (lfr.refl Js) hv (subD.refl _) (fun p h => h) (fun q => absurd q (by decide))
