/-! the law's loop, and its start -/
theorem INV.up {N L : Nat} {B : HP} {I : IM} (h : INV N L B I) : INV (N + 1) L B I := by
  obtain ⟨R, c, hh, sv, SR, eo, why, det, cau, o, l, hb, hKI, sC0, sM0, hWI⟩ := h
  exact INV.of hb hKI (upB.refl B) sC0 sM0 (frX.refl I) (frM.refl I) hWI.up
set_option maxRecDepth 100000 in
theorem law_loop {d : Nat} {Post : Out → HP → Prop} {G : Nat → LV → List Value → HP → Prop} (hG : Cl (Sp (d + 21)) md_L_law Post G) {L : Nat} (hL : L ≤ 2560) (hp : ∀ (N : Nat) (B : HP) (I : IM), INV N L B I → 5 * N ≤ L → Post (.inl (some (.int (i3 1)))) (wI B I)) : ∀ (mz N : Nat) (B : HP) (I : IM) (i : Nat) (l6 l7 l8 : Option Value), L + 5 - i = mz → INV N L B I → i = 5 * N → 5 * N ≤ L → G 28 [some (.ref (BIG + 20)), some (.ref 0), some (.ref 178), some (.ref 184), some (.ref 185), some (.int (i3 (i : Int))), l6, l7, l8] [] (wI B I) := by
  intro mz
  induction mz using Nat.strongRecOn with
  | ind mz ih =>
    intro N B I i l6 l7 l8 hme hI hiN hNL
    have h20 : hK B (BIG + 20) = (9, L) := by
      obtain ⟨R, c, hh, sv, SR, eo, why, det, cau, o, l, hb, -⟩ := hI
      exact hb.2.2.2.2.1
    obtain ⟨x0, e0⟩ : ∃ v, I (BIG + 20) i = v := ⟨_, rfl⟩
    refine q_iload hG rfl rfl ?_
    refine q_aload_n hG rfl rfl ?_
    refine q_alen hG rfl h20 ⟨by decide, by decide⟩ ?_
    refine q_iconst (v := 5) hG rfl rfl ?_
    refine q_isub hG rfl ?_
    refine q_icmp_gt hG rfl ⟨by omega, by omega⟩ ⟨by omega, by omega⟩ (fun hc34 => ?_) (fun hc34 => ?_)
    · refine q_iconst (v := 1) hG rfl rfl ?_
      refine q_iret5 hG rfl rfl (by decide) ?_
      exact hp _ _ _ hI hNL
    · have hi : i + 5 ≤ L := by omega
      have hN : N ≤ 512 := by omega
      have hend : ∀ (B2 : HP) (K : IM) (l6 l7 l8 : Option Value), INV (N + 1) L B2 K → G 2835 [some (.ref (BIG + 20)), some (.ref 0), some (.ref 178), some (.ref 184), some (.ref 185), some (.int (i3 (i : Int))), l6, l7, l8] [] (wI B2 K) := by
        intro B2 K l6 l7 l8 hI2
        refine q_iinc (c := 5) hG rfl rfl rfl rfl ?_
        rw [show (i : Int) + 5 = ((i + 5 : Nat) : Int) by omega]
        refine q_goto hG rfl ?_
        exact ih (L + 5 - (i + 5)) (by omega) (N + 1) B2 K (i + 5) l6 l7 l8 rfl hI2 (by omega) (by omega)
      refine q_aload_n hG rfl rfl ?_
      refine q_iload hG rfl rfl ?_
      refine q_iald9v (v := x0) hG rfl h20 ⟨by omega, by omega, by omega⟩ (by rw [show ((i : Int)).toNat = i by omega]; exact e0) ?_
      refine q_bipush (v := 63) hG rfl rfl ?_
      refine q_iand hG 6 rfl (by decide) (by decide +kernel) ?_
      refine q_tsw hG rfl ⟨by omega, by omega⟩ rfl ?_
      refine ⟨fun hs44 => ?_, fun hs44_0 => ?_⟩
      · exact lc_0 hG hI hN hi hL hend _ _ _
      refine ⟨fun hs44 => ?_, fun hs44_1 => ?_⟩
      · exact lc_1 hG hI hN hi hL hend _ _ _
      refine ⟨fun hs44 => ?_, fun hs44_2 => ?_⟩
      · exact lc_2 hG hI hN hi hL hend _ _ _
      refine ⟨fun hs44 => ?_, fun hs44_3 => ?_⟩
      · exact lc_3 hG hI hN hi hL hend _ _ _
      refine ⟨fun hs44 => ?_, fun hs44_4 => ?_⟩
      · exact lc_4 hG hI hN hi hL hend _ _ _
      refine ⟨fun hs44 => ?_, fun hs44_5 => ?_⟩
      · exact lc_5 hG hI hN hi hL hend _ _ _
      refine ⟨fun hs44 => ?_, fun hs44_6 => ?_⟩
      · exact lc_6 hG hI hN hi hL hend _ _ _
      refine ⟨fun hs44 => ?_, fun hs44_7 => ?_⟩
      · exact lc_7 hG hI hN hi hL hend _ _ _
      refine ⟨fun hs44 => ?_, fun hs44_8 => ?_⟩
      · exact lc_8 hG hI hN hi hL hend _ _ _
      refine ⟨fun hs44 => ?_, fun hs44_9 => ?_⟩
      · exact lc_9 hG hI hN hi hL hend _ _ _
      refine ⟨fun hs44 => ?_, fun hs44_10 => ?_⟩
      · exact lc_10 hG hI hN hi hL hend _ _ _
      refine ⟨fun hs44 => ?_, fun hs44_11 => ?_⟩
      · exact lc_11 hG hI hN hi hL hend _ _ _
      refine ⟨fun hs44 => ?_, fun hs44_12 => ?_⟩
      · exact lc_12 hG hI hN hi hL hend _ _ _
      refine ⟨fun hs44 => ?_, fun hs44_13 => ?_⟩
      · exact lc_13 hG hI hN hi hL hend _ _ _
      refine ⟨fun hs44 => ?_, fun hs44_14 => ?_⟩
      · exact lc_14 hG hI hN hi hL hend _ _ _
      refine ⟨fun hs44 => ?_, fun hs44_15 => ?_⟩
      · exact lc_15 hG hI hN hi hL hend _ _ _
      refine ⟨fun hs44 => ?_, fun hs44_16 => ?_⟩
      · exact lc_16 hG hI hN hi hL hend _ _ _
      refine ⟨fun hs44 => ?_, fun hs44_17 => ?_⟩
      · exact lc_17 hG hI hN hi hL hend _ _ _
      refine ⟨fun hs44 => ?_, fun hs44_18 => ?_⟩
      · exact lc_18 hG hI hN hi hL hend _ _ _
      refine ⟨fun hs44 => ?_, fun hs44_19 => ?_⟩
      · exact lc_19 hG hI hN hi hL hend _ _ _
      refine ⟨fun hs44 => ?_, fun hs44_20 => ?_⟩
      · exact lc_20 hG hI hN hi hL hend _ _ _
      refine ⟨fun hs44 => ?_, fun hs44_21 => ?_⟩
      · exact lc_21 hG hI hN hi hL hend _ _ _
      refine ⟨fun hs44 => ?_, fun hs44_22 => ?_⟩
      · exact lc_22 hG hI hN hi hL hend _ _ _
      refine ⟨fun hs44 => ?_, fun hs44_23 => ?_⟩
      · exact lc_23 hG hI hN hi hL hend _ _ _
      refine ⟨fun hs44 => ?_, fun hs44_24 => ?_⟩
      · exact lc_24 hG hI hN hi hL hend _ _ _
      refine ⟨fun hs44 => ?_, fun hs44_25 => ?_⟩
      · exact lc_25 hG hI hN hi hL hend _ _ _
      refine ⟨fun hs44 => ?_, fun hs44_26 => ?_⟩
      · exact lc_26 hG hI hN hi hL hend _ _ _
      refine ⟨fun hs44 => ?_, fun hs44_27 => ?_⟩
      · exact lc_27 hG hI hN hi hL hend _ _ _
      refine ⟨fun hs44 => ?_, fun hs44_28 => ?_⟩
      · exact lc_28 hG hI hN hi hL hend _ _ _
      refine ⟨fun hs44 => ?_, fun hs44_29 => ?_⟩
      · exact lc_29 hG hI hN hi hL hend _ _ _
      refine ⟨fun hs44 => ?_, fun hs44_30 => ?_⟩
      · exact lc_30 hG hI hN hi hL hend _ _ _
      refine ⟨fun hs44 => ?_, fun hs44_31 => ?_⟩
      · exact lc_31 hG hI hN hi hL hend _ _ _
      refine ⟨fun hs44 => ?_, fun hs44_32 => ?_⟩
      · exact lc_32 hG hI hN hi hL hend _ _ _
      refine ⟨fun hs44 => ?_, fun hs44_33 => ?_⟩
      · exact lc_33 hG hI hN hi hL hend _ _ _
      refine ⟨fun hs44 => ?_, fun hs44_34 => ?_⟩
      · exact lc_34 hG hI hN hi hL hend _ _ _
      refine ⟨fun hs44 => ?_, fun hs44_35 => ?_⟩
      · exact lc_35 hG hI hN hi hL hend _ _ _
      refine ⟨fun hs44 => ?_, fun hs44_36 => ?_⟩
      · exact lc_36 hG hI hN hi hL hend _ _ _
      refine ⟨fun hs44 => ?_, fun hs44_37 => ?_⟩
      · exact lc_37 hG hI hN hi hL hend _ _ _
      refine ⟨fun hs44 => ?_, fun hs44_38 => ?_⟩
      · exact lc_38 hG hI hN hi hL hend _ _ _
      refine ⟨fun hs44 => ?_, fun hs44_39 => ?_⟩
      · exact lc_39 hG hI hN hi hL hend _ _ _
      refine ⟨fun hs44 => ?_, fun hs44_40 => ?_⟩
      · exact lc_40 hG hI hN hi hL hend _ _ _
      refine ⟨fun hs44 => ?_, fun hs44_41 => ?_⟩
      · exact lc_41 hG hI hN hi hL hend _ _ _
      refine ⟨fun hs44 => ?_, fun hs44_42 => ?_⟩
      · exact lc_42 hG hI hN hi hL hend _ _ _
      refine ⟨fun hs44 => ?_, fun hs44_43 => ?_⟩
      · exact lc_43 hG hI hN hi hL hend _ _ _
      refine ⟨fun hs44 => ?_, fun hs44_44 => ?_⟩
      · exact lc_44 hG hI hN hi hL hend _ _ _
      refine ⟨fun hs44 => ?_, fun hs44_45 => ?_⟩
      · exact lc_45 hG hI hN hi hL hend _ _ _
      refine ⟨fun hs44 => ?_, fun hs44_46 => ?_⟩
      · exact lc_46 hG hI hN hi hL hend _ _ _
      refine ⟨fun hs44 => ?_, fun hs44_47 => ?_⟩
      · exact lc_47 hG hI hN hi hL hend _ _ _
      refine ⟨fun hs44 => ?_, fun hs44_48 => ?_⟩
      · exact lc_48 hG hI hN hi hL hend _ _ _
      refine ⟨fun hs44 => ?_, fun hs44_49 => ?_⟩
      · exact lc_49 hG hI hN hi hL hend _ _ _
      refine ⟨fun hs44 => ?_, fun hs44_50 => ?_⟩
      · exact lc_50 hG hI hN hi hL hend _ _ _
      refine ⟨fun hs44 => ?_, fun hs44_51 => ?_⟩
      · exact lc_51 hG hI hN hi hL hend _ _ _
      refine ⟨fun hs44 => ?_, fun hs44_52 => ?_⟩
      · exact lc_52 hG hI hN hi hL hend _ _ _
      refine ⟨fun hs44 => ?_, fun hs44_53 => ?_⟩
      · exact lc_53 hG hI hN hi hL hend _ _ _
      exact hend _ _ _ _ _ hI.up
