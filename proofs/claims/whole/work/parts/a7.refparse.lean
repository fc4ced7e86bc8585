/-! the reference parses; what a command does -/
theorem s_R_parse {d : Nat} {B : HP} {I : IM} {Post : Out → HP → Prop} {m : Nat} (hm : oM B m) {l : List Int} (hi : inR I m l) (p1 : ∀ k, outS l k → ∀ J : IM, J m 18 = -1 → J m 21 = ((k + 1 : Nat) : Int) → (∀ j, j ≤ k → mcP J m (4 * j) (vb l (cp l j)).1 (cm l (cp l j))) → hfM I J m → Post (.inl none) (wI B J)) (p0 : ∀ e : Nat, outF l e → ∀ J : IM, J m 18 = (e : Int) → hfM I J m → Post (.inl none) (wI B J)) : Sp (d + 7) k_X9_parse [.ref m] (wI B I) Post := by
  refine Sp_intro md_X9_parse rfl rfl (fun G hG => ?_)
  have hm0 := hm
  obtain ⟨n1, n2, n3, n4, n5, n6, n7, n8, n9, n10, n11⟩ := hm
  have hi0 := hi
  obtain ⟨i1, i2, i3e, i4⟩ := hi
  have lp : ∀ (mz : Nat) (i : Nat) (J : IM), l.length + 1 - cp l i = mz → rdN l i → rqS J m l (cm l (cp l i)) → J m 21 = ((i + 1 : Nat) : Int) → (∀ j, j < i → mcP J m (4 * j) (vb l (cp l j)).1 (cm l (cp l j))) → ((cm l (cp l i)).1 = true → mcP J m (4 * i) (vb l (cp l i)).1 (cm l (cp l i))) → hfM I J m → G 19 [some (.ref m)] [] (wI B J) := by
    intro mz
    induction mz using Nat.strongRecOn with
    | ind mz ih =>
      intro i J hme hn hq h21 hst hok hf
      have hcp := rdN_cp hn
      have hlt := hq.lt
      have hq2 := hq.2.1
      have hr18 : r32 (J m 18) := by rcases hlt with ⟨-, z⟩ | ⟨-, z⟩ <;> rw [z] <;> exact ⟨by omega, by have := hq.2.2.2; omega⟩
      refine q_aload_n hG rfl rfl ?_
      refine q_getI0v (v := J m 18) hG rfl (by assumption) rfl ?_
      refine q_if_ge hG rfl (hr18) (fun hc23 => ?_) (fun hc23 => ?_)
      · refine q_aload_n hG rfl rfl ?_
        refine q_getI0v (v := J m 18) hG rfl (by assumption) rfl ?_
        refine q_if_ge hG rfl (hr18) (fun hc56 => ?_) (fun hc56 => absurd (by omega) hc56)
        refine q_vret hG rfl ?_
        have e1 : (cm l (cp l i)).1 = false := by
          rcases hlt with ⟨-, q⟩ | ⟨q, -⟩
          · omega
          · exact q
        exact p0 _ ⟨i, hn, Or.inl ⟨e1, rfl⟩⟩ J (hq.no e1) hf
      · have e1 : (cm l (cp l i)).1 = true := by
          rcases hlt with ⟨q, -⟩ | ⟨-, q⟩
          · exact q
          · omega
        have hc4 := cm_ok e1
        refine q_aload_n hG rfl rfl ?_
        refine q_callV6 hG rfl rfl rfl (by assumption) (s_R_sign (p := (cm l (cp l i)).2.1) hm0 hq.1 hq2 hq.2.2.2 ?_)
        have hsb := sg_bd i3e (cm l (cp l i)).2.1
        refine q_bipush (v := 59) hG rfl rfl ?_
        refine q_icmp_ne hG rfl ⟨by omega, by omega⟩ ⟨by omega, by omega⟩ (fun hc32 => ?_) (fun hc32 => ?_)
        · refine q_aload_n hG rfl rfl ?_
          refine q_getI0v (v := J m 18) hG rfl (by assumption) rfl ?_
          refine q_if_ge hG rfl (hr18) (fun hc56 => absurd hc56 (by omega)) (fun hc56 => ?_)
          refine q_aload_n hG rfl rfl ?_
          refine q_getI0v (v := ((cm l (cp l i)).2.1 : Int)) hG rfl (by assumption) (hq2) ?_
          refine q_aload_n hG rfl rfl ?_
          refine q_getI0v (v := (l.length : Int)) hG rfl (by assumption) (by rw [hf.2 16 (by decide) (by decide) (by decide)]; exact i1) ?_
          refine q_icmp_ge hG rfl ⟨by omega, by omega⟩ ⟨by omega, by omega⟩ (fun hc67 => ?_) (fun hc67 => ?_)
          · refine q_vret hG rfl ?_
            exact p1 i ⟨hn, e1, by omega⟩ J (hq.ok e1) h21 (fun j hj => if e : j = i then by rw [e]; exact hok e1 else hst j (by omega)) hf
          · refine q_aload_n hG rfl rfl ?_
            refine q_aload_n hG rfl rfl ?_
            refine q_getI0v (v := ((cm l (cp l i)).2.1 : Int)) hG rfl (by assumption) (hq2) ?_
            refine q_putI0 hG rfl (by assumption) ?_
            refine q_vret hG rfl ?_
            exact p0 _ ⟨i, hn, Or.inr ⟨e1, by omega, hc32, rfl⟩⟩ _ (st_same _ _ _ _) (hf.trans (hfM.st (Or.inr (Or.inl rfl))))
        · have hn2 := hn.succ e1 (Decidable.not_not.mp hc32)
          have h59 := sg_lt (l := l) (p := (cm l (cp l i)).2.1) (by omega)
          refine q_aload_n hG rfl rfl ?_
          refine q_dup hG rfl rfl ?_
          refine q_getI0v (v := ((cm l (cp l i)).2.1 : Int)) hG rfl (by assumption) (hq2) ?_
          refine q_iconst (v := 1) hG rfl rfl ?_
          refine q_iadd hG rfl ?_
          refine q_putI0 hG rfl (by assumption) ?_
          refine q_aload_n hG rfl rfl ?_
          have qn : rqS (st J m 17 (((cm l (cp l i)).2.1 : Int) + 1)) m l (true, cp l (i + 1), [], 0) := ⟨hq.1.h (hfr.st (Or.inl rfl)), by rw [st_same]; show _ = (((cm l (cp l i)).2.1 + 1 : Nat) : Int); omega, by rw [st_ne _ _ (by omega)]; exact hq.ok e1, by show (cm l (cp l i)).2.1 + 1 ≤ 61; omega⟩
          refine q_callV6 hG rfl rfl rfl (by assumption) (s_R_command (i := i + 1) hm0 qn (by rw [st_ne _ _ (by omega)]; exact h21) (by omega) (fun J2 q2 k2 c2 m2 f2 => ?_))
          refine q_goto hG rfl ?_
          have hst3 : ∀ j, j < i + 1 → mcP J2 m (4 * j) (vb l (cp l j)).1 (cm l (cp l j)) := fun j hj => by
            have h9 : mcP J m (4 * j) (vb l (cp l j)).1 (cm l (cp l j)) := if e : j = i then by rw [e]; exact hok e1 else hst j (by omega)
            have hrow : ∀ z, z < 4 * (i + 1) → J2 (m + 5) z = J (m + 5) z := fun z hz => by rw [c2 z hz, st_row _ _ (by omega)]
            have hlen : (cm l (cp l j)).2.2.1.length ≤ 3 := by
              have hj1 : (cm l (cp l j)).1 = true := if e : j = i then by rw [e]; exact e1 else (hn j (by omega)).1
              have a := (cm_ok hj1).2.2
              have b := (vb_form l (cp l j)).2.2.1
              rw [a, b]
              split
              · omega
              · split
                · omega
                · split <;> omega
            exact ⟨by rw [hrow _ (by omega)]; exact h9.1, fun z hz => by rw [hrow _ (by omega)]; exact h9.2 z hz⟩
          exact ih _ (by rw [← hme]; show l.length + 1 - ((cm l (cp l i)).2.1 + 1) < l.length + 1 - cp l i; have := (cm_ok e1).1; omega) (i + 1) J2 rfl hn2 q2 (by rw [m2]; omega) hst3 k2 ((hf.trans (hfM.st (Or.inl rfl))).trans f2)
  show G 0 [some (.ref m)] [] (wI B I)
  refine q_aload_n hG rfl rfl ?_
  refine q_iconst (v := 0) hG rfl rfl ?_
  refine q_putI0 hG rfl (by assumption) ?_
  refine q_aload_n hG rfl rfl ?_
  refine q_iconst (v := -1) hG rfl rfl ?_
  refine q_putI0 hG rfl (by assumption) ?_
  refine q_aload_n hG rfl rfl ?_
  refine q_iconst (v := 0) hG rfl rfl ?_
  refine q_putI0 hG rfl (by assumption) ?_
  refine q_aload_n hG rfl rfl ?_
  refine q_callV6 hG rfl rfl rfl (by assumption) (s_R_command (p := 0) (i := 0) hm0 ⟨hi0.mv (by rw [st_ne _ _ (by omega), st_ne _ _ (by omega), st_ne _ _ (by omega)]) (by rw [st_row _ _ (by omega), st_row _ _ (by omega), st_row _ _ (by omega)]), by rw [st_ne _ _ (by omega), st_ne _ _ (by omega), st_same]; rfl, by rw [st_ne _ _ (by omega), st_same]; rfl, by show 0 ≤ 61; omega⟩ (by rw [st_same]; rfl) (by omega) (fun J1 q1 k1 c1 m1 f1 => ?_))
  exact lp _ 0 J1 rfl (fun k hk => by omega) q1 (by rw [m1]; rfl) (fun j hj => by omega) k1 ((((hfM.st (Or.inl rfl)).trans (hfM.st (Or.inr (Or.inl rfl)))).trans (hfM.st (Or.inr (Or.inr rfl)))).trans f1)
/-- what becomes of a command -/
abbrev CO : Type := RW ⊕ (Int × Int) ⊕ Unit
def nwL (R : RW) (a b : Int) : Int := if R (5 + 4 * a.toNat + 2) < b then b else R (5 + 4 * a.toNat + 2)
def nwH (R : RW) (a c : Int) : Int := if c < R (5 + 4 * a.toNat + 3) then c else R (5 + 4 * a.toNat + 3)
noncomputable def outC (R : RW) (v kd a b c : Int) : CO :=
  letI := fun p : Prop => Classical.propDecidable p
  if v = 1 then (if rngP a b then (if R 0 < 6 then .inl (addR R a b) else .inr (.inl (1, 6))) else .inr (.inr ()))
  else if v = 2 then (if (0 ≤ a ∧ a < R 0) ∧ rngP b c then .inl (frmR R a.toNat b c) else .inr (.inr ()))
  else if v = 3 then (if (0 ≤ a ∧ a < R 0) ∧ rngP b c then (if (nwL R a b) ≤ (nwH R a c) then .inl (narR R a.toNat (nwL R a b) (nwH R a c)) else .inr (.inl (4, R (5 + 4 * a.toNat + 2)))) else .inr (.inr ()))
  else if v = 4 then (if ((0 ≤ a ∧ a < R 0) ∧ (0 ≤ b ∧ b < R 0)) ∧ cnP kd a b c then (if R 1 < 10 then (if h : ∃ p, fst (sameR R kd a b c) (R 1).toNat p then .inr (.inl (3, R (29 + 5 * Classical.choose h))) else .inl (bndR R kd a b c)) else .inr (.inl (2, R 29))) else .inr (.inr ()))
  else if v = 5 then (if h : ∃ p, fst (fun k => R (29 + 5 * k) = a) (R 1).toNat p then .inl (drpR R (Classical.choose h)) else .inr (.inr ()))
  else if v = 6 then (match (paR R 1).2 with | none => .inl (setB R (paR R 1).1 1) | some p => .inr (.inl (5, R (29 + 5 * p))))
  else if v = 7 then (match (stR2 R 1).1 with | none => .inl (setB R (stR2 R 1).2.1 (stR2 R 1).2.2) | some p => .inr (.inl (5, R (29 + 5 * p))))
  else .inl (openR R)
section
variable {R : RW} {kd a b c : Int}
theorem oc1_f (h : ¬ rngP a b) : outC R 1 kd a b c = .inr (.inr ()) := by unfold outC; rw [if_pos rfl, if_neg h]
theorem oc1_r (h : rngP a b) (h2 : R 0 = 6) : outC R 1 kd a b c = .inr (.inl (1, 6)) := by unfold outC; rw [if_pos rfl, if_pos h, if_neg (by omega)]
theorem oc1_o (h : rngP a b) (h2 : R 0 < 6) : outC R 1 kd a b c = .inl (addR R a b) := by unfold outC; rw [if_pos rfl, if_pos h, if_pos h2]
theorem oc2_f (h : ¬ ((0 ≤ a ∧ a < R 0) ∧ rngP b c)) : outC R 2 kd a b c = .inr (.inr ()) := by unfold outC; rw [if_neg (by decide), if_pos rfl, if_neg h]
theorem oc2_o (h : (0 ≤ a ∧ a < R 0) ∧ rngP b c) : outC R 2 kd a b c = .inl (frmR R a.toNat b c) := by unfold outC; rw [if_neg (by decide), if_pos rfl, if_pos h]
theorem oc3_f (h : ¬ ((0 ≤ a ∧ a < R 0) ∧ rngP b c)) : outC R 3 kd a b c = .inr (.inr ()) := by unfold outC; rw [if_neg (by decide), if_neg (by decide), if_pos rfl, if_neg h]
theorem oc3_r (h : (0 ≤ a ∧ a < R 0) ∧ rngP b c) (h2 : (if c < R (5 + 4 * a.toNat + 3) then c else R (5 + 4 * a.toNat + 3)) < (if R (5 + 4 * a.toNat + 2) < b then b else R (5 + 4 * a.toNat + 2))) : outC R 3 kd a b c = .inr (.inl (4, R (5 + 4 * a.toNat + 2))) := by unfold outC; rw [if_neg (by decide), if_neg (by decide), if_pos rfl, if_pos h, if_neg (show ¬ nwL R a b ≤ nwH R a c from Int.not_le.mpr h2)]
theorem oc3_o (h : (0 ≤ a ∧ a < R 0) ∧ rngP b c) (h2 : (if R (5 + 4 * a.toNat + 2) < b then b else R (5 + 4 * a.toNat + 2)) ≤ (if c < R (5 + 4 * a.toNat + 3) then c else R (5 + 4 * a.toNat + 3))) : outC R 3 kd a b c = .inl (narR R a.toNat (if R (5 + 4 * a.toNat + 2) < b then b else R (5 + 4 * a.toNat + 2)) (if c < R (5 + 4 * a.toNat + 3) then c else R (5 + 4 * a.toNat + 3))) := by unfold outC; rw [if_neg (show ¬ (3 : Int) = 1 by decide), if_neg (show ¬ (3 : Int) = 2 by decide), if_pos (rfl : (3 : Int) = 3), if_pos h, if_pos (show nwL R a b ≤ nwH R a c from h2)]; rfl
theorem oc4_f (h : ¬ (((0 ≤ a ∧ a < R 0) ∧ (0 ≤ b ∧ b < R 0)) ∧ cnP kd a b c)) : outC R 4 kd a b c = .inr (.inr ()) := by unfold outC; rw [if_neg (by decide), if_neg (by decide), if_neg (by decide), if_pos rfl, if_neg h]
theorem oc4_l (h : ((0 ≤ a ∧ a < R 0) ∧ (0 ≤ b ∧ b < R 0)) ∧ cnP kd a b c) (h2 : R 1 = 10) : outC R 4 kd a b c = .inr (.inl (2, R 29)) := by unfold outC; rw [if_neg (by decide), if_neg (by decide), if_neg (by decide), if_pos rfl, if_pos h, if_neg (by omega)]
theorem oc4_s (h : ((0 ≤ a ∧ a < R 0) ∧ (0 ≤ b ∧ b < R 0)) ∧ cnP kd a b c) (h2 : R 1 < 10) {p : Nat} (hp : fst (sameR R kd a b c) (R 1).toNat p) : outC R 4 kd a b c = .inr (.inl (3, R (29 + 5 * p))) := by
  have hx : ∃ p, fst (sameR R kd a b c) (R 1).toNat p := ⟨p, hp⟩
  unfold outC
  rw [if_neg (by decide), if_neg (by decide), if_neg (by decide), if_pos rfl, if_pos h, if_pos h2, dif_pos hx, fst_u (Classical.choose_spec hx) hp]
theorem oc4_o (h : ((0 ≤ a ∧ a < R 0) ∧ (0 ≤ b ∧ b < R 0)) ∧ cnP kd a b c) (h2 : R 1 < 10) (hp : ∀ k, k < (R 1).toNat → ¬ sameR R kd a b c k) : outC R 4 kd a b c = .inl (bndR R kd a b c) := by
  have hx : ¬ ∃ p, fst (sameR R kd a b c) (R 1).toNat p := fun ⟨p, q⟩ => hp p q.1 q.2.1
  unfold outC
  rw [if_neg (by decide), if_neg (by decide), if_neg (by decide), if_pos rfl, if_pos h, if_pos h2, dif_neg hx]
theorem oc5_f (hp : ∀ k, k < (R 1).toNat → ¬ R (29 + 5 * k) = a) : outC R 5 kd a b c = .inr (.inr ()) := by
  have hx : ¬ ∃ p, fst (fun k => R (29 + 5 * k) = a) (R 1).toNat p := fun ⟨p, q⟩ => hp p q.1 q.2.1
  unfold outC
  rw [if_neg (by decide), if_neg (by decide), if_neg (by decide), if_neg (by decide), if_pos rfl, dif_neg hx]
theorem oc5_o {p : Nat} (hp : fst (fun k => R (29 + 5 * k) = a) (R 1).toNat p) : outC R 5 kd a b c = .inl (drpR R p) := by
  have hx : ∃ p, fst (fun k => R (29 + 5 * k) = a) (R 1).toNat p := ⟨p, hp⟩
  unfold outC
  rw [if_neg (by decide), if_neg (by decide), if_neg (by decide), if_neg (by decide), if_pos rfl, dif_pos hx, fst_u (Classical.choose_spec hx) hp]
theorem oc6_r {p : Nat} (h : (paR R 1).2 = some p) : outC R 6 kd a b c = .inr (.inl (5, R (29 + 5 * p))) := by
  unfold outC
  rw [if_neg (by decide), if_neg (by decide), if_neg (by decide), if_neg (by decide), if_neg (by decide), if_pos rfl, h]
theorem oc6_o (h : (paR R 1).2 = none) : outC R 6 kd a b c = .inl (setB R (paR R 1).1 1) := by
  unfold outC
  rw [if_neg (by decide), if_neg (by decide), if_neg (by decide), if_neg (by decide), if_neg (by decide), if_pos rfl, h]
theorem oc7_r {p : Nat} (h : (stR2 R 1).1 = some p) : outC R 7 kd a b c = .inr (.inl (5, R (29 + 5 * p))) := by
  unfold outC
  rw [if_neg (by decide), if_neg (by decide), if_neg (by decide), if_neg (by decide), if_neg (by decide), if_neg (by decide), if_pos rfl, h]
theorem oc7_o (h : (stR2 R 1).1 = none) : outC R 7 kd a b c = .inl (setB R (stR2 R 1).2.1 (stR2 R 1).2.2) := by
  unfold outC
  rw [if_neg (by decide), if_neg (by decide), if_neg (by decide), if_neg (by decide), if_neg (by decide), if_neg (by decide), if_pos rfl, h]
theorem oc8_o : outC R 8 kd a b c = .inl (openR R) := by
  unfold outC
  rw [if_neg (by decide), if_neg (by decide), if_neg (by decide), if_neg (by decide), if_neg (by decide), if_neg (by decide), if_neg (by decide)]
end
/-- what becomes of a command that was read -/
noncomputable def outL (R : RW) (l : List Int) (j : Nat) : CO := outC R (vb l (cp l j)).1 (cm l (cp l j)).2.2.2 ((cm l (cp l j)).2.2.1.getD 0 0) ((cm l (cp l j)).2.2.1.getD 1 0) ((cm l (cp l j)).2.2.1.getD 2 0)
theorem outC_cg {R : RW} {v kd kd' a b c a' b' c' : Int} (hv : 1 ≤ v ∧ v ≤ 8) (h1 : v ≤ 5 → a = a') (h2 : v ≤ 4 → b = b') (h3 : v = 2 ∨ v = 3 ∨ v = 4 → c = c') (h4 : v = 4 → kd = kd') : outC R v kd a b c = outC R v kd' a' b' c' := by
  by_cases e4 : v = 4
  · rw [h1 (by omega), h2 (by omega), h3 (by omega), h4 e4]
  · unfold outC
    rw [if_neg e4, if_neg e4]
    by_cases e1 : v = 1
    · rw [if_pos e1, if_pos e1, h1 (by omega), h2 (by omega)]
    · rw [if_neg e1, if_neg e1]
      by_cases e2 : v = 2
      · rw [if_pos e2, if_pos e2, h1 (by omega), h2 (by omega), h3 (by omega)]
      · rw [if_neg e2, if_neg e2]
        by_cases e3 : v = 3
        · rw [if_pos e3, if_pos e3, h1 (by omega), h2 (by omega), h3 (by omega)]
        · rw [if_neg e3, if_neg e3]
          by_cases e5 : v = 5
          · rw [if_pos e5, if_pos e5, h1 (by omega)]
          · rw [if_neg e5, if_neg e5]
