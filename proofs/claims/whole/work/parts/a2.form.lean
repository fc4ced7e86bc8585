/-! the class reads a form -/
theorem stp_D {l : List Int} {p : Nat} {ns : List Int} {kd : Int} (h : dgP (sg l p)) : stp l (true, p, ns, kd) 68 = (true, p + 1, ns ++ [sg l p - 48], kd) := by
  unfold stp
  rw [if_neg (show ¬ ((true, p, ns, kd) : PS).1 = false from fun h => Bool.noConfusion h), if_pos rfl, if_pos h]
theorem stp_D0 {l : List Int} {p : Nat} {ns : List Int} {kd : Int} (h : ¬ dgP (sg l p)) : stp l (true, p, ns, kd) 68 = (false, p, ns, kd) := by
  unfold stp
  rw [if_neg (show ¬ ((true, p, ns, kd) : PS).1 = false from fun h => Bool.noConfusion h), if_pos rfl, if_neg h]
theorem stp_N2 {l : List Int} {p : Nat} {ns : List Int} {kd : Int} (h : dgP (sg l p)) (h2 : dgP (sg l (p + 1))) : stp l (true, p, ns, kd) 78 = (true, p + 2, ns ++ [10 * (sg l p - 48) + (sg l (p + 1) - 48)], kd) := by
  unfold stp
  rw [if_neg (show ¬ ((true, p, ns, kd) : PS).1 = false from fun h => Bool.noConfusion h), if_neg (by decide), if_pos rfl, if_pos h, if_pos h2]
theorem stp_N1 {l : List Int} {p : Nat} {ns : List Int} {kd : Int} (h : dgP (sg l p)) (h2 : ¬ dgP (sg l (p + 1))) : stp l (true, p, ns, kd) 78 = (true, p + 1, ns ++ [sg l p - 48], kd) := by
  unfold stp
  rw [if_neg (show ¬ ((true, p, ns, kd) : PS).1 = false from fun h => Bool.noConfusion h), if_neg (by decide), if_pos rfl, if_pos h, if_neg h2]
theorem stp_N0 {l : List Int} {p : Nat} {ns : List Int} {kd : Int} (h : ¬ dgP (sg l p)) : stp l (true, p, ns, kd) 78 = (false, p, ns, kd) := by
  unfold stp
  rw [if_neg (show ¬ ((true, p, ns, kd) : PS).1 = false from fun h => Bool.noConfusion h), if_neg (by decide), if_pos rfl, if_neg h]
theorem stp_K1 {l : List Int} {p : Nat} {ns : List Int} {kd : Int} (h : sg l p = 60 ∨ sg l p = 61 ∨ sg l p = 35) : stp l (true, p, ns, kd) 75 = (true, p + 1, ns, sg l p) := by
  unfold stp
  rw [if_neg (show ¬ ((true, p, ns, kd) : PS).1 = false from fun h => Bool.noConfusion h), if_neg (by decide), if_neg (by decide), if_pos rfl, if_pos h]
theorem stp_K0 {l : List Int} {p : Nat} {ns : List Int} {kd : Int} (h : ¬ (sg l p = 60 ∨ sg l p = 61 ∨ sg l p = 35)) : stp l (true, p, ns, kd) 75 = (false, p, ns, kd) := by
  unfold stp
  rw [if_neg (show ¬ ((true, p, ns, kd) : PS).1 = false from fun h => Bool.noConfusion h), if_neg (by decide), if_neg (by decide), if_pos rfl, if_neg h]
theorem stp_S1 {l : List Int} {p : Nat} {ns : List Int} {kd c : Int} (h1 : c ≠ 68) (h2 : c ≠ 78) (h3 : c ≠ 75) (h : sg l p = c) : stp l (true, p, ns, kd) c = (true, p + 1, ns, kd) := by
  unfold stp
  rw [if_neg (show ¬ ((true, p, ns, kd) : PS).1 = false from fun h => Bool.noConfusion h), if_neg h1, if_neg h2, if_neg h3, if_pos h]
theorem stp_S0 {l : List Int} {p : Nat} {ns : List Int} {kd c : Int} (h1 : c ≠ 68) (h2 : c ≠ 78) (h3 : c ≠ 75) (h : sg l p ≠ c) : stp l (true, p, ns, kd) c = (false, p, ns, kd) := by
  unfold stp
  rw [if_neg (show ¬ ((true, p, ns, kd) : PS).1 = false from fun h => Bool.noConfusion h), if_neg h1, if_neg h2, if_neg h3, if_neg h]
theorem drop_cons {t : List Int} {k : Nat} (h : k < t.length) : t.drop k = t.getD k 0 :: t.drop (k + 1) := by
  rw [List.drop_eq_getElem_cons h, List.getD_eq_getElem?_getD, List.getElem?_eq_getElem h]
  rfl
/-- numbers are noted -/
def nsS (J : IM) (i : Nat) (ns : List Int) : Prop := ∀ j, j < ns.length → J (166 + i) j = ns.getD j 0
theorem nsS.push {J J' : IM} {i : Nat} {ns : List Int} {v : Int} (h : nsS J i ns) (h1 : ∀ j, j < ns.length → J' (166 + i) j = J (166 + i) j) (h2 : J' (166 + i) ns.length = v) : nsS J' i (ns ++ [v]) := fun j hj => by
  rw [List.length_append] at hj
  have hj : j < ns.length + 1 := hj
  rw [getD_app]
  split
  · rename_i q; rw [h1 j q]; exact h j q
  · rename_i q
    have e : j = ns.length := by omega
    subst e
    rw [h2, Nat.sub_self]
    rfl
theorem sfrC.num {I : IM} {i : Nat} {j : Nat} {z : Int} (hi : i < 12) : sfrC I (st I (166 + i) j z) i := ⟨fun a _ _ _ h => st_row _ _ h, fun k _ => by rw [st_row _ _ (by omega)], fun k _ => by rw [st_row _ _ (by omega)], fun k _ => by rw [st_row _ _ (by omega)]⟩

theorem s_T_form {d : Nat} {B : HP} {I : IM} {Post : Out → HP → Prop} (hX : LX B) {v n : Nat} {l : List Int} {p : Nat} (hs : rdS B I v n l p) {i : Nat} (hi : i < 12) {vbn : Int} (hvb : 1 ≤ vbn ∧ vbn ≤ 8) {k : Nat} {t : List Int} (hk : kS B I k t) (ht1 : ∀ c ∈ t, 1 ≤ c) (hnm : nmL t ≤ 3) (p1 : (fm l p t).1 = true → ∀ J : IM, rdS B J v n l (fm l p t).2.1 → sfrC I J i → J 163 i = vbn → nsS J i (fm l p t).2.2.1 → ((fm l p t).2.2.2 ≠ 0 → J 164 i = (fm l p t).2.2.2) → Post (.inl (some (.int (i3 1)))) (wI B J)) (p0 : (fm l p t).1 = false → ∀ J : IM, rdS B J v n l (fm l p t).2.1 → sfrC I J i → Post (.inl (some (.int (i3 0)))) (wI B J)) : Sp (d + 8) k_X7_readForm [.ref 160, .int (i3 ((i : Int))), .int (i3 (vbn)), .ref (BIG + k)] (wI B I) Post := by
  refine Sp_intro md_X7_readForm rfl rfl (fun G hG => ?_)
  have hX0 := hX
  obtain ⟨x0, x1, x2, x3, x4, x5, x6, x7, x8, x9, x10, x11, x12, x13, x14, x15, x16, x17, x18, x19, x20, x21, x22, x23, x24, x25, x26, x27, x28, x29, x30, x31, x32, x33, x34, x35, x36, x37, x38, x39, x40, x41, x42, x43, x44⟩ := hX
  have h60 : hK B 160 = (17, 0) := x35
  have hrt : hR B 160 0 = some 161 := x36
  have hrow : hR B 165 i = some (166 + i) ∧ hK B (166 + i) = (1, 3) := x44 i hi
  have hr1 := hrow.1
  have hr2 := hrow.2
  have ei : (i : Int).toNat = i := by omega
  have hk1 := hk.1
  have hk7 := hk.2.2.2.2.2.2
  have lp : ∀ (mz : Nat) (x : Nat) (pp : Nat) (ns : List Int) (kd : Int) (J : IM) (v6 : Option Value) (v7 : Option Value) (v8 : Option Value), t.length - x = mz → x ≤ t.length → (fm l p t) = (t.drop x).foldl (stp l) (true, pp, ns, kd) → rdS B J v n l pp → sfrC I J i → J 163 i = vbn → nsS J i ns → ns.length + nmL (t.drop x) ≤ 3 → (kd ≠ 0 → J 164 i = kd) → (v7 = none ∨ ∃ z, v7 = some (.int z)) → G 13 [some (.ref 160), some (.int (i3 (i : Int))), some (.int (i3 vbn)), some (.ref (BIG + k)), some (.int (i3 (ns.length : Int))), some (.int (i3 (x : Int))), v6, v7, v8] [] (wI B J) := by
    intro mz
    induction mz using Nat.strongRecOn with
    | ind mz ih =>
      intro x pp ns kd J v6 v7 v8 hme hx hfold hsJ hg hv3 hns hnl hkd h7
      have hkJ : kS B J k t := hk.row (fun a ha => hg.1 a (by unfold BIG at ha; omega) (by unfold BIG at ha; omega) (by unfold BIG at ha; omega) (by unfold BIG at ha; omega))
      refine q_iload hG rfl rfl ?_
      refine q_aload_n hG rfl rfl ?_
      refine q_callV6 hG rfl rfl rfl (by assumption) (s_J_slen hkJ ?_)
      refine q_icmp_ge hG rfl ⟨by omega, by omega⟩ ⟨by omega, by omega⟩ (fun hc19 => ?_) (fun hc19 => ?_)
      · refine q_iconst (v := 1) hG rfl rfl ?_
        refine q_iret5 hG rfl rfl (by decide) ?_
        have ex : x = t.length := by omega
        rw [ex, List.drop_length] at hfold
        have hfold : (fm l p t) = (true, pp, ns, kd) := hfold
        rw [hfold] at p1
        exact p1 rfl J hsJ hg hv3 hns hkd
      · have hdc := drop_cons (t := t) (k := x) (by omega)
        have hcm : t.getD x 0 ∈ t := by rw [List.getD_eq_getElem?_getD, List.getElem?_eq_getElem (show x < t.length by omega)]; exact List.getElem_mem _
        have hc1 := ht1 _ hcm
        have hc2 := hk.2.2.2.2.2.1 _ hcm
        have hnc : nmL (t.drop x) = nmC (t.getD x 0) + nmL (t.drop (x + 1)) := by rw [hdc]; rfl
        rw [hdc] at hfold
        replace hfold : (fm l p t) = (t.drop (x + 1)).foldl (stp l) (stp l (true, pp, ns, kd) (t.getD x 0)) := hfold
        refine q_aload_n hG rfl rfl ?_
        refine q_iload hG rfl rfl ?_
        refine q_callV6 hG rfl rfl rfl (by assumption) (s_J_sat hkJ ⟨by omega, by omega⟩ ?_)
        rw [show (x : Int).toNat = x by omega]
        refine q_istore hG rfl rfl ?_
        refine q_iload hG rfl rfl ?_
        refine q_bipush (v := 68) hG rfl rfl ?_
        refine q_icmp_eq hG rfl ⟨by omega, by omega⟩ ⟨by omega, by omega⟩ (fun hc34 => ?_) (fun hc34 => ?_)
        · have hnc1 : nmC (t.getD x 0) = 1 := if_pos (by omega)
          refine q_iload hG rfl rfl ?_
          refine q_iconst (v := 3) hG rfl rfl ?_
          refine q_icmp_ge hG rfl ⟨by omega, by omega⟩ ⟨by omega, by omega⟩ (fun hc47 => absurd hc47 (by omega)) (fun hc47 => ?_)
          refine q_iload hG rfl rfl ?_
          refine q_bipush (v := 68) hG rfl rfl ?_
          refine q_icmp_ne hG rfl ⟨by omega, by omega⟩ ⟨by omega, by omega⟩ (fun hc54 => absurd hc54 (by omega)) (fun hc54 => ?_)
          refine q_aload_n hG rfl rfl ?_
          refine q_callV6 hG rfl rfl rfl (by assumption) (s_T_digit h60 hrt hsJ (fun d1 J1 r1 f1 => ?_) (fun d1 => ?_))
          · have e1 := d1
            unfold dgP at e1
            have e9 := sg_lt (l := l) (p := pp) (by omega)
            refine q_goto hG rfl ?_
            refine q_istore hG rfl (by rcases h7 with e | ⟨z, e⟩ <;> rw [e] <;> rfl) ?_
            refine q_aload_n hG rfl rfl ?_
            refine q_getR hG rfl (by assumption) (by assumption) ?_
            refine q_iload_n hG rfl rfl ?_
            refine q_aald hG rfl (by assumption) (by first | exact Or.inl rfl | exact Or.inr rfl) ⟨by omega, by omega, by omega⟩ (by assumption) ?_
            refine q_iload hG rfl rfl ?_
            refine q_iload hG rfl rfl ?_
            refine q_iast hG rfl (by assumption) ⟨by omega, by omega, by omega⟩ ?_
            refine q_iinc (c := 1) hG rfl rfl rfl rfl ?_
            refine q_iload hG rfl rfl ?_
            refine q_iconst (v := -1) hG rfl rfl ?_
            refine q_icmp_eq hG rfl ⟨by omega, by omega⟩ ⟨by omega, by omega⟩ (fun hc87 => absurd hc87 (by omega)) (fun hc87 => ?_)
            refine q_iconst (v := 1) hG rfl rfl ?_
            refine q_goto hG rfl ?_
            refine q_istore hG rfl rfl ?_
            refine q_goto hG rfl ?_
            refine q_iload hG rfl rfl ?_
            refine q_if_ne hG rfl ⟨by omega, by omega⟩ (fun _ => ?_) (fun q => absurd (by decide) q)
            refine q_iinc (c := 1) hG rfl rfl rfl rfl ?_
            refine q_goto hG rfl ?_
            have c68 : t.getD x 0 = 68 := hc34
            rw [c68, stp_D d1] at hfold
            have hl60 := r1.2.2.2.2.1
            have eLe : (ns.length : Int) + 1 = ((ns ++ [sg l pp - 48]).length : Int) := by rw [List.length_append]; rfl
            have hJ : rdS B (st J1 (166 + i) ns.length (sg l pp - 48)) v n l (pp + 1) := r1.mv (fun a ha => st_row _ _ (by omega)) (by rw [st_row _ _ (by omega)]; exact r1.2.2.2.2.2.1) (by omega)
            have gJ : sfrC I (st J1 (166 + i) ns.length (sg l pp - 48)) i := (hg.trans ((f1).c i)).trans (sfrC.num hi)
            have eLn : (ns.length : Int).toNat = ns.length := by omega
            rw [eLn, eLe]
            refine ih _ (by omega) (x + 1) (pp + 1) (ns ++ [sg l pp - 48]) kd _ _ _ _ rfl (by omega) hfold hJ gJ (by rw [st_row _ _ (by omega), f1.1 163 (by decide)]; exact hv3) (hns.push (fun j hj => by rw [st_ne _ _ (by omega), f1.1 _ (by omega)]) (st_same _ _ _ _)) (by rw [List.length_append]; show ns.length + 1 + _ ≤ 3; omega) (fun z => by rw [st_row _ _ (by omega), f1.1 164 (by decide)]; exact hkd z) (Or.inr ⟨_, rfl⟩)
          · refine q_goto hG rfl ?_
            refine q_istore hG rfl (by rcases h7 with e | ⟨z, e⟩ <;> rw [e] <;> rfl) ?_
            refine q_aload_n hG rfl rfl ?_
            refine q_getR hG rfl (by assumption) (by assumption) ?_
            refine q_iload_n hG rfl rfl ?_
            refine q_aald hG rfl (by assumption) (by first | exact Or.inl rfl | exact Or.inr rfl) ⟨by omega, by omega, by omega⟩ (by assumption) ?_
            refine q_iload hG rfl rfl ?_
            refine q_iload hG rfl rfl ?_
            refine q_iast hG rfl (by assumption) ⟨by omega, by omega, by omega⟩ ?_
            refine q_iinc (c := 1) hG rfl rfl rfl rfl ?_
            refine q_iload hG rfl rfl ?_
            refine q_iconst (v := -1) hG rfl rfl ?_
            refine q_icmp_eq hG rfl ⟨by omega, by omega⟩ ⟨by omega, by omega⟩ (fun _ => ?_) (fun q => absurd (by decide) q)
            refine q_iconst (v := 0) hG rfl rfl ?_
            refine q_istore hG rfl rfl ?_
            refine q_goto hG rfl ?_
            refine q_iload hG rfl rfl ?_
            refine q_if_ne hG rfl ⟨by omega, by omega⟩ (fun q => absurd q (by decide)) (fun _ => ?_)
            refine q_iconst (v := 0) hG rfl rfl ?_
            refine q_iret5 hG rfl rfl (by decide) ?_
            have c68 : t.getD x 0 = 68 := hc34
            rw [c68, stp_D0 d1, fold_f _ rfl] at hfold
            rw [hfold] at p0
            exact p0 rfl _ (hsJ.mv (fun a ha => st_row _ _ (by omega)) (by rw [st_row _ _ (by omega)]; exact hsJ.2.2.2.2.2.1) hsJ.2.2.2.2.2.2) (hg.trans (sfrC.num hi))
        · refine q_iload hG rfl rfl ?_
          refine q_bipush (v := 78) hG rfl rfl ?_
          refine q_icmp_ne hG rfl ⟨by omega, by omega⟩ ⟨by omega, by omega⟩ (fun hc41 => ?_) (fun hc41 => ?_)
          · refine q_iload hG rfl rfl ?_
            refine q_bipush (v := 75) hG rfl rfl ?_
            refine q_icmp_ne hG rfl ⟨by omega, by omega⟩ ⟨by omega, by omega⟩ (fun hc104 => ?_) (fun hc104 => ?_)
            · refine q_aload_n hG rfl rfl ?_
              refine q_iload hG rfl rfl ?_
              refine q_callV6 hG rfl rfl rfl (by assumption) (s_T_sign h60 hrt hsJ (by omega) (fun d1 J1 r1 f1 => ?_) (fun d1 => ?_))
              · refine q_istore hG rfl rfl ?_
                refine q_iload hG rfl rfl ?_
                refine q_if_ne hG rfl ⟨by omega, by omega⟩ (fun _ => ?_) (fun q => absurd (by decide) q)
                refine q_iinc (c := 1) hG rfl rfl rfl rfl ?_
                refine q_goto hG rfl ?_
                rw [stp_S1 (by omega) (by omega) (by omega) d1] at hfold
                exact ih _ (by omega) (x + 1) (pp + 1) ns kd J1 _ _ _ rfl (by omega) hfold r1 (hg.trans (f1.c i)) (by rw [f1.1 163 (by decide)]; exact hv3) (fun j hj => by rw [f1.1 _ (by omega)]; exact hns j hj) (by omega) (fun z => by rw [f1.1 164 (by decide)]; exact hkd z) (Or.inr ⟨_, rfl⟩)
              · refine q_istore hG rfl rfl ?_
                refine q_iload hG rfl rfl ?_
                refine q_if_ne hG rfl ⟨by omega, by omega⟩ (fun q => absurd q (by decide)) (fun _ => ?_)
                refine q_iconst (v := 0) hG rfl rfl ?_
                refine q_iret5 hG rfl rfl (by decide) ?_
                rw [stp_S0 (by omega) (by omega) (by omega) d1, fold_f _ rfl] at hfold
                rw [hfold] at p0
                exact p0 rfl J hsJ hg
            · refine q_aload_n hG rfl rfl ?_
              refine q_iload_n hG rfl rfl ?_
              refine q_callV6 hG rfl rfl rfl (by assumption) (s_T_kind h60 hrt hsJ x38 x42 hi (fun d1 J1 r1 f1 q1 => ?_) (fun d1 J1 r1 f1 => ?_))
              · refine q_goto hG rfl ?_
                refine q_istore hG rfl rfl ?_
                refine q_iload hG rfl rfl ?_
                refine q_if_ne hG rfl ⟨by omega, by omega⟩ (fun _ => ?_) (fun q => absurd (by decide) q)
                refine q_iinc (c := 1) hG rfl rfl rfl rfl ?_
                refine q_goto hG rfl ?_
                have c75 : t.getD x 0 = 75 := by omega
                rw [c75, stp_K1 d1] at hfold
                exact ih _ (by omega) (x + 1) (pp + 1) ns (sg l pp) J1 _ _ _ rfl (by omega) hfold r1 (hg.trans f1.c) (by rw [f1.1 163 (by decide) (by decide)]; exact hv3) (fun j hj => by rw [f1.1 _ (by omega) (by omega)]; exact hns j hj) (by omega) (fun _ => q1) (Or.inr ⟨_, rfl⟩)
              · refine q_goto hG rfl ?_
                refine q_istore hG rfl rfl ?_
                refine q_iload hG rfl rfl ?_
                refine q_if_ne hG rfl ⟨by omega, by omega⟩ (fun q => absurd q (by decide)) (fun _ => ?_)
                refine q_iconst (v := 0) hG rfl rfl ?_
                refine q_iret5 hG rfl rfl (by decide) ?_
                have c75 : t.getD x 0 = 75 := by omega
                rw [c75, stp_K0 d1, fold_f _ rfl] at hfold
                rw [hfold] at p0
                exact p0 rfl J1 r1 (hg.trans f1.c)
          · have hnc1 : nmC (t.getD x 0) = 1 := if_pos (by omega)
            refine q_iload hG rfl rfl ?_
            refine q_iconst (v := 3) hG rfl rfl ?_
            refine q_icmp_ge hG rfl ⟨by omega, by omega⟩ ⟨by omega, by omega⟩ (fun hc47 => absurd hc47 (by omega)) (fun hc47 => ?_)
            refine q_iload hG rfl rfl ?_
            refine q_bipush (v := 68) hG rfl rfl ?_
            refine q_icmp_ne hG rfl ⟨by omega, by omega⟩ ⟨by omega, by omega⟩ (fun hc54 => ?_) (fun hc54 => absurd (by omega) hc54)
            refine q_aload_n hG rfl rfl ?_
            refine q_callV6 hG rfl rfl rfl (by assumption) (s_T_number h60 hrt hsJ (fun d1 d2 J1 r1 f1 => ?_) (fun d1 d2 J1 r1 f1 => ?_) (fun d1 => ?_))
            · have e1 := d1
              unfold dgP at e1
              have e2 := d2
              unfold dgP at e2
              have e9 := sg_lt (l := l) (p := pp + 1) (by omega)
              refine q_istore hG rfl (by rcases h7 with e | ⟨z, e⟩ <;> rw [e] <;> rfl) ?_
              refine q_aload_n hG rfl rfl ?_
              refine q_getR hG rfl (by assumption) (by assumption) ?_
              refine q_iload_n hG rfl rfl ?_
              refine q_aald hG rfl (by assumption) (by first | exact Or.inl rfl | exact Or.inr rfl) ⟨by omega, by omega, by omega⟩ (by assumption) ?_
              refine q_iload hG rfl rfl ?_
              refine q_iload hG rfl rfl ?_
              refine q_iast hG rfl (by assumption) ⟨by omega, by omega, by omega⟩ ?_
              refine q_iinc (c := 1) hG rfl rfl rfl rfl ?_
              refine q_iload hG rfl rfl ?_
              refine q_iconst (v := -1) hG rfl rfl ?_
              refine q_icmp_eq hG rfl ⟨by omega, by omega⟩ ⟨by omega, by omega⟩ (fun hc87 => absurd hc87 (by omega)) (fun hc87 => ?_)
              refine q_iconst (v := 1) hG rfl rfl ?_
              refine q_goto hG rfl ?_
              refine q_istore hG rfl rfl ?_
              refine q_goto hG rfl ?_
              refine q_iload hG rfl rfl ?_
              refine q_if_ne hG rfl ⟨by omega, by omega⟩ (fun _ => ?_) (fun q => absurd (by decide) q)
              refine q_iinc (c := 1) hG rfl rfl rfl rfl ?_
              refine q_goto hG rfl ?_
              have c78 : t.getD x 0 = 78 := by omega
              rw [c78, stp_N2 d1 d2] at hfold
              have hl60 := r1.2.2.2.2.1
              have eLe : (ns.length : Int) + 1 = ((ns ++ [10 * (sg l pp - 48) + (sg l (pp + 1) - 48)]).length : Int) := by rw [List.length_append]; rfl
              have hJ : rdS B (st J1 (166 + i) ns.length (10 * (sg l pp - 48) + (sg l (pp + 1) - 48))) v n l (pp + 2) := r1.mv (fun a ha => st_row _ _ (by omega)) (by rw [st_row _ _ (by omega)]; exact r1.2.2.2.2.2.1) (by omega)
              have gJ : sfrC I (st J1 (166 + i) ns.length (10 * (sg l pp - 48) + (sg l (pp + 1) - 48))) i := (hg.trans ((f1).c i)).trans (sfrC.num hi)
              have eLn : (ns.length : Int).toNat = ns.length := by omega
              rw [eLn, eLe]
              refine ih _ (by omega) (x + 1) (pp + 2) (ns ++ [10 * (sg l pp - 48) + (sg l (pp + 1) - 48)]) kd _ _ _ _ rfl (by omega) hfold hJ gJ (by rw [st_row _ _ (by omega), f1.1 163 (by decide)]; exact hv3) (hns.push (fun j hj => by rw [st_ne _ _ (by omega), f1.1 _ (by omega)]) (st_same _ _ _ _)) (by rw [List.length_append]; show ns.length + 1 + _ ≤ 3; omega) (fun z => by rw [st_row _ _ (by omega), f1.1 164 (by decide)]; exact hkd z) (Or.inr ⟨_, rfl⟩)
            · have e1 := d1
              unfold dgP at e1
              have e9 := sg_lt (l := l) (p := pp) (by omega)
              refine q_istore hG rfl (by rcases h7 with e | ⟨z, e⟩ <;> rw [e] <;> rfl) ?_
              refine q_aload_n hG rfl rfl ?_
              refine q_getR hG rfl (by assumption) (by assumption) ?_
              refine q_iload_n hG rfl rfl ?_
              refine q_aald hG rfl (by assumption) (by first | exact Or.inl rfl | exact Or.inr rfl) ⟨by omega, by omega, by omega⟩ (by assumption) ?_
              refine q_iload hG rfl rfl ?_
              refine q_iload hG rfl rfl ?_
              refine q_iast hG rfl (by assumption) ⟨by omega, by omega, by omega⟩ ?_
              refine q_iinc (c := 1) hG rfl rfl rfl rfl ?_
              refine q_iload hG rfl rfl ?_
              refine q_iconst (v := -1) hG rfl rfl ?_
              refine q_icmp_eq hG rfl ⟨by omega, by omega⟩ ⟨by omega, by omega⟩ (fun hc87 => absurd hc87 (by omega)) (fun hc87 => ?_)
              refine q_iconst (v := 1) hG rfl rfl ?_
              refine q_goto hG rfl ?_
              refine q_istore hG rfl rfl ?_
              refine q_goto hG rfl ?_
              refine q_iload hG rfl rfl ?_
              refine q_if_ne hG rfl ⟨by omega, by omega⟩ (fun _ => ?_) (fun q => absurd (by decide) q)
              refine q_iinc (c := 1) hG rfl rfl rfl rfl ?_
              refine q_goto hG rfl ?_
              have c78 : t.getD x 0 = 78 := by omega
              rw [c78, stp_N1 d1 d2] at hfold
              have hl60 := r1.2.2.2.2.1
              have eLe : (ns.length : Int) + 1 = ((ns ++ [sg l pp - 48]).length : Int) := by rw [List.length_append]; rfl
              have hJ : rdS B (st J1 (166 + i) ns.length (sg l pp - 48)) v n l (pp + 1) := r1.mv (fun a ha => st_row _ _ (by omega)) (by rw [st_row _ _ (by omega)]; exact r1.2.2.2.2.2.1) (by omega)
              have gJ : sfrC I (st J1 (166 + i) ns.length (sg l pp - 48)) i := (hg.trans ((f1).c i)).trans (sfrC.num hi)
              have eLn : (ns.length : Int).toNat = ns.length := by omega
              rw [eLn, eLe]
              refine ih _ (by omega) (x + 1) (pp + 1) (ns ++ [sg l pp - 48]) kd _ _ _ _ rfl (by omega) hfold hJ gJ (by rw [st_row _ _ (by omega), f1.1 163 (by decide)]; exact hv3) (hns.push (fun j hj => by rw [st_ne _ _ (by omega), f1.1 _ (by omega)]) (st_same _ _ _ _)) (by rw [List.length_append]; show ns.length + 1 + _ ≤ 3; omega) (fun z => by rw [st_row _ _ (by omega), f1.1 164 (by decide)]; exact hkd z) (Or.inr ⟨_, rfl⟩)
            · refine q_istore hG rfl (by rcases h7 with e | ⟨z, e⟩ <;> rw [e] <;> rfl) ?_
              refine q_aload_n hG rfl rfl ?_
              refine q_getR hG rfl (by assumption) (by assumption) ?_
              refine q_iload_n hG rfl rfl ?_
              refine q_aald hG rfl (by assumption) (by first | exact Or.inl rfl | exact Or.inr rfl) ⟨by omega, by omega, by omega⟩ (by assumption) ?_
              refine q_iload hG rfl rfl ?_
              refine q_iload hG rfl rfl ?_
              refine q_iast hG rfl (by assumption) ⟨by omega, by omega, by omega⟩ ?_
              refine q_iinc (c := 1) hG rfl rfl rfl rfl ?_
              refine q_iload hG rfl rfl ?_
              refine q_iconst (v := -1) hG rfl rfl ?_
              refine q_icmp_eq hG rfl ⟨by omega, by omega⟩ ⟨by omega, by omega⟩ (fun _ => ?_) (fun q => absurd (by decide) q)
              refine q_iconst (v := 0) hG rfl rfl ?_
              refine q_istore hG rfl rfl ?_
              refine q_goto hG rfl ?_
              refine q_iload hG rfl rfl ?_
              refine q_if_ne hG rfl ⟨by omega, by omega⟩ (fun q => absurd q (by decide)) (fun _ => ?_)
              refine q_iconst (v := 0) hG rfl rfl ?_
              refine q_iret5 hG rfl rfl (by decide) ?_
              have c78 : t.getD x 0 = 78 := by omega
              rw [c78, stp_N0 d1, fold_f _ rfl] at hfold
              rw [hfold] at p0
              exact p0 rfl _ (hsJ.mv (fun a ha => st_row _ _ (by omega)) (by rw [st_row _ _ (by omega)]; exact hsJ.2.2.2.2.2.1) hsJ.2.2.2.2.2.2) (hg.trans (sfrC.num hi))
  show G 0 [some (.ref 160), some (.int (i3 ((i : Int)))), some (.int (i3 (vbn))), some (.ref (BIG + k)), none, none, none, none, none] [] (wI B I)
  refine q_aload_n hG rfl rfl ?_
  refine q_getR hG rfl (by assumption) (by assumption) ?_
  refine q_iload_n hG rfl rfl ?_
  refine q_iload_n hG rfl rfl ?_
  refine q_iast hG rfl (by assumption) ⟨by omega, by omega, by omega⟩ ?_
  refine q_iconst (v := 0) hG rfl rfl ?_
  refine q_istore hG rfl rfl ?_
  refine q_iconst (v := 0) hG rfl rfl ?_
  refine q_istore hG rfl rfl ?_
  exact lp _ 0 p [] 0 _ none none none rfl (Nat.zero_le _) rfl (hs.mv (fun a ha => st_row _ _ (by omega)) (by rw [st_row _ _ (by decide)]; exact hs.2.2.2.2.2.1) hs.2.2.2.2.2.2) ⟨fun a _ h _ _ => st_row _ _ h, fun k _ => by rw [st_row _ _ (by decide)], fun k h => st_ne _ _ (fun z => h (z.2.trans ei)), fun k _ => by rw [st_row _ _ (by decide)]⟩ (by rw [ei, st_same]) (fun j hj => absurd hj (by simp)) (by show 0 + nmL t ≤ 3; omega) (fun z => absurd rfl z) (Or.inl rfl)
