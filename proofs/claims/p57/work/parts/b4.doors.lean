/-! the law's body: a door's bounds, its constraints, its sums, its lowest heights -/
section
variable {S : SpecT} {M : MDT} {Post : Out → HP → Prop} {G : Nat → LV → List Value → HP → Prop} {pc nx : Nat} {cst : Int32} {x : List Nat} {L : LV} {r : List Value}
theorem q_icmpne_same (hG : Cl S M Post G) {A : HP} {j : _} {t : Nat} {v : Int32} (hl : lk pc M.1 = some (.if_icmp .ne j, nx, cst, t :: x)) (h : G nx L r A) : G pc L (.int v :: .int v :: r) A := hG _ _ _ _ (by
  unfold stepP
  rw [hl]
  exact ⟨fun q => absurd rfl q, fun _ => h⟩)
end
theorem s_T_num {d : Nat} {B : HP} {I : IM} {Post : Out → HP → Prop} {s v n : Nat} (ho : oS B s v n) {l : List Int} (ht : sbT I s v l) {u : Int} (hu : 0 ≤ u ∧ u < 1000000000) (hC : kC B I) (hvb : v < BIG) (hr : l.length + (decL u.toNat).length ≤ n) (hp : ∀ J : IM, sbT J s v (l ++ decL u.toNat) → (∀ a, a ≠ s → a ≠ v → J a = I a) → Post (.inl (some (.ref s))) (wI B J)) : Sp (d + 3) k_J4_append_bf812 [.ref s, .int (i3 (u))] (wI B I) Post := by
  obtain ⟨m, rfl⟩ : ∃ m : Nat, u = (m : Int) := ⟨u.toNat, by omega⟩
  exact s_J_num ho ht (by omega) hC hvb hr hp
def ptK (R : RW) (k : Nat) : Nat → Int := fun j => if R (29 + 5 * j + 2) = (k : Int) ∨ R (29 + 5 * j + 3) = (k : Int) then 1 else 0
def fxK (R : RW) : Nat → Int := fun j => if R (5 + 4 * j + 2) = R (5 + 4 * j + 3) then 1 else 0
def tfK (R : RW) : Nat → Int := fun j => R (5 + 4 * j + 1) - R (5 + 4 * j) + 1
theorem ptK_bd (R : RW) (k n : Nat) (hn : n ≤ 10) : 0 ≤ sm (ptK R k) n ∧ sm (ptK R k) n ≤ 10 := by
  have h := sm_bd (f := ptK R k) (a := 0) (b := 1) n (fun j _ => by unfold ptK; split <;> omega)
  omega
def lsK (R : RW) (k : Nat) (s : Int) : Prop := (s = 0 ∧ R (5 + 4 * k + 2) = R (5 + 4 * k) ∧ R (5 + 4 * k + 3) = R (5 + 4 * k + 1)) ∨ (s = 1 ∧ ¬ (R (5 + 4 * k + 2) = R (5 + 4 * k) ∧ R (5 + 4 * k + 3) = R (5 + 4 * k + 1)))
theorem lw_B1 {d : Nat} {Post : Out → HP → Prop} {G : Nat → LV → List Value → HP → Prop} (hG : Cl (Sp (d + 19)) md_L_law Post G) {M L : Nat} {R : RW} {B : HP} {I : IM} (t : TI M L 4 R B I) (hM : M + 60 ≤ 5000) {tn : Nat} {f5 f6 f7 z9 : Int} {k : Nat} (hk : (k : Int) < R 0) {l11 l12 l13 l14 l15 l16 l17 : Option Value}  (hend : G 145 [some (.ref (BIG + 20)), some (.ref 0), some (.int (i3 (tn : Int))), some (.int (i3 (R 0))), some (.int (i3 (R 1))), some (.int (i3 f5)), some (.int (i3 f6)), some (.int (i3 f7)), some (.int (i3 0)), some (.int (i3 z9)), some (.int (i3 ((k : Int)))), some (.int (i3 (R (5 + 4 * k + 2)))), some (.int (i3 (R (5 + 4 * k + 3)))), some (.int (i3 (0))), l14, l15, l16, l17] [] (wI B I)) : G 58 [some (.ref (BIG + 20)), some (.ref 0), some (.int (i3 (tn : Int))), some (.int (i3 (R 0))), some (.int (i3 (R 1))), some (.int (i3 f5)), some (.int (i3 f6)), some (.int (i3 f7)), some (.int (i3 0)), some (.int (i3 z9)), some (.int (i3 ((k : Int)))), l11, l12, l13, l14, l15, l16, l17] [] (wI B I) := by
  have b0 := t.b0
  have b1 := t.b1
  have dd := t.dd
  have hX9 := t.lx.1
  have nn := t.nn
  have dk := t.door hk
  have ew : wdR R k = R (5 + 4 * k + 3) - R (5 + 4 * k + 2) + 1 := rfl
  refine q_aload_n hG rfl rfl ?_
  refine q_iload hG rfl rfl ?_
  refine q_callV6 hG rfl rfl rfl hX9 (t_low t hk ?_)
  refine q_istore hG rfl rfl ?_
  refine q_aload_n hG rfl rfl ?_
  refine q_iload hG rfl rfl ?_
  refine q_callV6 hG rfl rfl rfl hX9 (t_high t hk ?_)
  refine q_istore hG rfl rfl ?_
  refine q_iconst (v := 0) hG rfl rfl ?_
  refine q_istore hG rfl rfl ?_
  refine q_iload hG rfl rfl ?_
  refine q_aload_n hG rfl rfl ?_
  refine q_iload hG rfl rfl ?_
  refine q_callV6 hG rfl rfl rfl hX9 (t_fLow t hk ?_)
  refine q_icmp_lt hG rfl ⟨by omega, by omega⟩ ⟨by omega, by omega⟩ (fun hc85 => absurd hc85 (by omega)) (fun hc85 => ?_)
  refine q_iload hG rfl rfl ?_
  refine q_aload_n hG rfl rfl ?_
  refine q_iload hG rfl rfl ?_
  refine q_callV6 hG rfl rfl rfl hX9 (t_fHigh t hk ?_)
  refine q_icmp_gt hG rfl ⟨by omega, by omega⟩ ⟨by omega, by omega⟩ (fun hc96 => absurd hc96 (by omega)) (fun hc96 => ?_)
  refine q_iload hG rfl rfl ?_
  refine q_iload hG rfl rfl ?_
  refine q_icmp_gt hG rfl ⟨by omega, by omega⟩ ⟨by omega, by omega⟩ (fun hc103 => absurd hc103 (by omega)) (fun hc103 => ?_)
  refine q_aload_n hG rfl rfl ?_
  refine q_iload hG rfl rfl ?_
  refine q_callV6 hG rfl rfl rfl hX9 (t_width t hk ?_)
  refine q_iload hG rfl rfl ?_
  refine q_iload hG rfl rfl ?_
  refine q_isub hG rfl ?_
  refine q_iconst (v := 1) hG rfl rfl ?_
  refine q_iadd hG rfl ?_
  refine q_icmp_ne hG rfl ⟨by omega, by omega⟩ ⟨by omega, by omega⟩ (fun hc119 => absurd hc119 (by omega)) (fun hc119 => ?_)
  refine q_aload_n hG rfl rfl ?_
  refine q_iload hG rfl rfl ?_
  refine q_callV6 hG rfl rfl rfl hX9 (t_fixed t hk (fun e => ?_) (fun e => ?_))
  · refine q_iload hG rfl rfl ?_
    refine q_iload hG rfl rfl ?_
    refine q_icmp_ne hG rfl ⟨by omega, by omega⟩ ⟨by omega, by omega⟩ (fun hc132 => ?_) (fun hc132 => ?_)
    · refine q_iconst (v := 0) hG rfl rfl ?_
      refine q_icmp_eq hG rfl ⟨by omega, by omega⟩ ⟨by omega, by omega⟩ (fun q => absurd q (by decide)) (fun _ => ?_)
      refine q_iconst (v := 0) hG rfl rfl ?_
      refine q_iret5 hG rfl rfl (by decide) ?_
      omega
    · refine q_iconst (v := 1) hG rfl rfl ?_
      refine q_goto hG rfl ?_
      refine q_icmp_eq hG rfl ⟨by omega, by omega⟩ ⟨by omega, by omega⟩ (fun _ => ?_) (fun q => absurd (by decide) q)
      exact hend
  · refine q_iload hG rfl rfl ?_
    refine q_iload hG rfl rfl ?_
    refine q_icmp_ne hG rfl ⟨by omega, by omega⟩ ⟨by omega, by omega⟩ (fun hc132 => ?_) (fun hc132 => ?_)
    · refine q_iconst (v := 0) hG rfl rfl ?_
      refine q_icmp_eq hG rfl ⟨by omega, by omega⟩ ⟨by omega, by omega⟩ (fun _ => ?_) (fun q => absurd (by decide) q)
      exact hend
    · refine q_iconst (v := 1) hG rfl rfl ?_
      refine q_goto hG rfl ?_
      refine q_icmp_eq hG rfl ⟨by omega, by omega⟩ ⟨by omega, by omega⟩ (fun q => absurd q (by decide)) (fun _ => ?_)
      refine q_iconst (v := 0) hG rfl rfl ?_
      refine q_iret5 hG rfl rfl (by decide) ?_
      omega
theorem lw_B2 {d : Nat} {Post : Out → HP → Prop} {G : Nat → LV → List Value → HP → Prop} (hG : Cl (Sp (d + 19)) md_L_law Post G) {M L : Nat} {R : RW} {B : HP} {I : IM} (t : TI M L 4 R B I) (hM : M + 60 ≤ 5000) {tn : Nat} {f5 f6 f7 z9 : Int} {k : Nat} (hk : (k : Int) < R 0) {l15 l16 l17 : Option Value}  (hend : G 201 [some (.ref (BIG + 20)), some (.ref 0), some (.int (i3 (tn : Int))), some (.int (i3 (R 0))), some (.int (i3 (R 1))), some (.int (i3 f5)), some (.int (i3 f6)), some (.int (i3 f7)), some (.int (i3 0)), some (.int (i3 z9)), some (.int (i3 ((k : Int)))), some (.int (i3 (R (5 + 4 * k + 2)))), some (.int (i3 (R (5 + 4 * k + 3)))), some (.int (i3 (tkR R (k : Int)))), some (.int (i3 (R 1))), l15, l16, l17] [] (wI B I)) : G 148 [some (.ref (BIG + 20)), some (.ref 0), some (.int (i3 (tn : Int))), some (.int (i3 (R 0))), some (.int (i3 (R 1))), some (.int (i3 f5)), some (.int (i3 f6)), some (.int (i3 f7)), some (.int (i3 0)), some (.int (i3 z9)), some (.int (i3 ((k : Int)))), some (.int (i3 (R (5 + 4 * k + 2)))), some (.int (i3 (R (5 + 4 * k + 3)))), some (.int (i3 (0))), some (.int (i3 (0))), l15, l16, l17] [] (wI B I) := by
  have b0 := t.b0
  have b1 := t.b1
  have dd := t.dd
  have hX9 := t.lx.1
  have nn := t.nn
  have dk := t.door hk
  have lq : ∀ (mz : Nat) (q : Nat) (p9 : Int), 10 - q = mz → (q : Int) ≤ R 1 → p9 = sm (ptK R k) q → G 148 [some (.ref (BIG + 20)), some (.ref 0), some (.int (i3 (tn : Int))), some (.int (i3 (R 0))), some (.int (i3 (R 1))), some (.int (i3 f5)), some (.int (i3 f6)), some (.int (i3 f7)), some (.int (i3 0)), some (.int (i3 z9)), some (.int (i3 ((k : Int)))), some (.int (i3 (R (5 + 4 * k + 2)))), some (.int (i3 (R (5 + 4 * k + 3)))), some (.int (i3 (p9))), some (.int (i3 ((q : Int)))), l15, l16, l17] [] (wI B I) := by
    intro mz
    induction mz using Nat.strongRecOn with
    | ind mz ih =>
      intro q p9 hme hq hp9
      have hpb := ptK_bd R k q (by omega)
      refine q_iload hG rfl rfl ?_
      refine q_iload hG rfl rfl ?_
      refine q_icmp_ge hG rfl ⟨by omega, by omega⟩ ⟨by omega, by omega⟩ (fun hc152 => ?_) (fun hc152 => ?_)
      · refine Eq.mp ?_ hend
        rw [show tkR R (k : Int) = p9 by rw [hp9]; unfold tkR; rw [show (R 1).toNat = q by omega]; rfl, show R 1 = (q : Int) by omega]
      · refine q_iload hG rfl rfl ?_
        have hq2 : (q : Int) < R 1 := by omega
        obtain ⟨k1, k2, k3, k4⟩ := t.con hq2
        have hi9 := t.id hq2
        refine q_aload_n hG rfl rfl ?_
        refine q_aload_n hG rfl rfl ?_
        refine q_iload hG rfl rfl ?_
        refine q_callV6 hG rfl rfl rfl hX9 (t_conAt t hq2 ?_)
        refine q_callV6 hG rfl rfl rfl hX9 (t_first t hq2 ?_)
        refine q_iload hG rfl rfl ?_
        refine q_icmp_eq hG rfl ⟨by omega, by omega⟩ ⟨by omega, by omega⟩ (fun hc169 => ?_) (fun hc169 => ?_)
        · refine q_iconst (v := 1) hG rfl rfl ?_
          refine q_goto hG rfl ?_
          refine q_iadd hG rfl ?_
          refine q_istore hG rfl rfl ?_
          refine q_iinc (c := 1) hG rfl rfl rfl rfl ?_
          refine q_goto hG rfl ?_
          rw [show (q : Int) + 1 = ((q + 1 : Nat) : Int) by omega]
          refine ih _ (by omega) (q + 1) _ rfl (by omega) ?_
          show _ = sm (ptK R k) q + ptK R k q
          rw [hp9, show ptK R k q = 1 from if_pos (Or.inl (by omega))]
        · refine q_aload_n hG rfl rfl ?_
          refine q_aload_n hG rfl rfl ?_
          refine q_iload hG rfl rfl ?_
          refine q_callV6 hG rfl rfl rfl hX9 (t_conAt t hq2 ?_)
          refine q_callV6 hG rfl rfl rfl hX9 (t_second t hq2 ?_)
          refine q_iload hG rfl rfl ?_
          refine q_icmp_ne hG rfl ⟨by omega, by omega⟩ ⟨by omega, by omega⟩ (fun hc184 => ?_) (fun hc184 => ?_)
          · refine q_iconst (v := 0) hG rfl rfl ?_
            refine q_iadd hG rfl ?_
            refine q_istore hG rfl rfl ?_
            refine q_iinc (c := 1) hG rfl rfl rfl rfl ?_
            refine q_goto hG rfl ?_
            rw [show (q : Int) + 1 = ((q + 1 : Nat) : Int) by omega]
            refine ih _ (by omega) (q + 1) _ rfl (by omega) ?_
            show _ = sm (ptK R k) q + ptK R k q
            rw [hp9, show ptK R k q = 0 from if_neg (by omega)]
          · refine q_iconst (v := 1) hG rfl rfl ?_
            refine q_goto hG rfl ?_
            refine q_iadd hG rfl ?_
            refine q_istore hG rfl rfl ?_
            refine q_iinc (c := 1) hG rfl rfl rfl rfl ?_
            refine q_goto hG rfl ?_
            rw [show (q : Int) + 1 = ((q + 1 : Nat) : Int) by omega]
            refine ih _ (by omega) (q + 1) _ rfl (by omega) ?_
            show _ = sm (ptK R k) q + ptK R k q
            rw [hp9, show ptK R k q = 1 from if_pos (Or.inr (by omega))]
  exact lq _ 0 _ rfl (by omega) rfl
theorem lw_B3 {d : Nat} {Post : Out → HP → Prop} {G : Nat → LV → List Value → HP → Prop} (hG : Cl (Sp (d + 19)) md_L_law Post G) {M L : Nat} {R : RW} {B : HP} {I : IM} (t : TI M L 4 R B I) (hM : M + 60 ≤ 5000) {tn : Nat} {f5 f6 f7 z9 : Int} {k : Nat} (hk : (k : Int) < R 0) {l15 l16 l17 : Option Value} (h5 : f5 = sm (fxK R) k) (h6 : f6 = sm (wdR R) k) (h7 : f7 = sm (tfK R) k)  (hend : ∀ g5 g6 g7 s9 : Int, g5 = sm (fxK R) (k + 1) → g6 = sm (wdR R) (k + 1) → g7 = sm (tfK R) (k + 1) → lsK R k s9 → G 279 [some (.ref (BIG + 20)), some (.ref 0), some (.int (i3 (tn : Int))), some (.int (i3 (R 0))), some (.int (i3 (R 1))), some (.int (i3 g5)), some (.int (i3 g6)), some (.int (i3 g7)), some (.int (i3 0)), some (.int (i3 z9)), some (.int (i3 ((k : Int)))), some (.int (i3 (R (5 + 4 * k + 2)))), some (.int (i3 (R (5 + 4 * k + 3)))), some (.int (i3 (tkR R (k : Int)))), some (.int (i3 (s9))), l15, l16, l17] [] (wI B I)) : G 201 [some (.ref (BIG + 20)), some (.ref 0), some (.int (i3 (tn : Int))), some (.int (i3 (R 0))), some (.int (i3 (R 1))), some (.int (i3 f5)), some (.int (i3 f6)), some (.int (i3 f7)), some (.int (i3 0)), some (.int (i3 z9)), some (.int (i3 ((k : Int)))), some (.int (i3 (R (5 + 4 * k + 2)))), some (.int (i3 (R (5 + 4 * k + 3)))), some (.int (i3 (tkR R (k : Int)))), some (.int (i3 (R 1))), l15, l16, l17] [] (wI B I) := by
  have b0 := t.b0
  have b1 := t.b1
  have dd := t.dd
  have hX9 := t.lx.1
  have nn := t.nn
  have dk := t.door hk
  refine q_iload hG rfl rfl ?_
  refine q_iload hG rfl rfl ?_
  refine q_iload hG rfl rfl ?_
  refine q_icmp_ne hG rfl ⟨by omega, by omega⟩ ⟨by omega, by omega⟩ (fun hc207 => ?_) (fun hc207 => ?_)
  · refine q_iconst (v := 0) hG rfl rfl ?_
    refine q_iadd hG rfl ?_
    refine q_istore hG rfl rfl ?_
    refine q_iload hG rfl rfl ?_
    refine q_iload hG rfl rfl ?_
    refine q_iload hG rfl rfl ?_
    refine q_isub hG rfl ?_
    refine q_iconst (v := 1) hG rfl rfl ?_
    refine q_iadd hG rfl ?_
    refine q_iadd hG rfl ?_
    refine q_istore hG rfl rfl ?_
    refine q_iload hG rfl rfl ?_
    refine q_aload_n hG rfl rfl ?_
    refine q_iload hG rfl rfl ?_
    refine q_callV6 hG rfl rfl rfl hX9 (t_fHigh t hk ?_)
    refine q_aload_n hG rfl rfl ?_
    refine q_iload hG rfl rfl ?_
    refine q_callV6 hG rfl rfl rfl hX9 (t_fLow t hk ?_)
    refine q_isub hG rfl ?_
    refine q_iconst (v := 1) hG rfl rfl ?_
    refine q_iadd hG rfl ?_
    refine q_iadd hG rfl ?_
    refine q_istore hG rfl rfl ?_
    refine q_iload hG rfl rfl ?_
    refine q_aload_n hG rfl rfl ?_
    refine q_iload hG rfl rfl ?_
    refine q_callV6 hG rfl rfl rfl hX9 (t_fLow t hk ?_)
    refine q_icmp_ne hG rfl ⟨by omega, by omega⟩ ⟨by omega, by omega⟩ (fun hc258 => ?_) (fun hc258 => ?_)
    · refine q_iconst (v := 1) hG rfl rfl ?_
      refine q_goto hG rfl ?_
      refine q_istore hG rfl rfl ?_
      refine hend _ _ _ _ ?_ ?_ ?_ (Or.inr ⟨rfl, by omega⟩)
      · rw [h5]; show _ = sm (fxK R) k + fxK R k; rw [show fxK R k = 0 from if_neg (by omega)]
      · rw [h6]; rfl
      · rw [h7]; rfl
    · refine q_iload hG rfl rfl ?_
      refine q_aload_n hG rfl rfl ?_
      refine q_iload hG rfl rfl ?_
      refine q_callV6 hG rfl rfl rfl hX9 (t_fHigh t hk ?_)
      refine q_icmp_eq hG rfl ⟨by omega, by omega⟩ ⟨by omega, by omega⟩ (fun hc269 => ?_) (fun hc269 => ?_)
      · refine q_iconst (v := 0) hG rfl rfl ?_
        refine q_istore hG rfl rfl ?_
        refine hend _ _ _ _ ?_ ?_ ?_ (Or.inl ⟨rfl, by omega, by omega⟩)
        · rw [h5]; show _ = sm (fxK R) k + fxK R k; rw [show fxK R k = 0 from if_neg (by omega)]
        · rw [h6]; rfl
        · rw [h7]; rfl
      · refine q_iconst (v := 1) hG rfl rfl ?_
        refine q_goto hG rfl ?_
        refine q_istore hG rfl rfl ?_
        refine hend _ _ _ _ ?_ ?_ ?_ (Or.inr ⟨rfl, by omega⟩)
        · rw [h5]; show _ = sm (fxK R) k + fxK R k; rw [show fxK R k = 0 from if_neg (by omega)]
        · rw [h6]; rfl
        · rw [h7]; rfl
  · refine q_iconst (v := 1) hG rfl rfl ?_
    refine q_goto hG rfl ?_
    refine q_iadd hG rfl ?_
    refine q_istore hG rfl rfl ?_
    refine q_iload hG rfl rfl ?_
    refine q_iload hG rfl rfl ?_
    refine q_iload hG rfl rfl ?_
    refine q_isub hG rfl ?_
    refine q_iconst (v := 1) hG rfl rfl ?_
    refine q_iadd hG rfl ?_
    refine q_iadd hG rfl ?_
    refine q_istore hG rfl rfl ?_
    refine q_iload hG rfl rfl ?_
    refine q_aload_n hG rfl rfl ?_
    refine q_iload hG rfl rfl ?_
    refine q_callV6 hG rfl rfl rfl hX9 (t_fHigh t hk ?_)
    refine q_aload_n hG rfl rfl ?_
    refine q_iload hG rfl rfl ?_
    refine q_callV6 hG rfl rfl rfl hX9 (t_fLow t hk ?_)
    refine q_isub hG rfl ?_
    refine q_iconst (v := 1) hG rfl rfl ?_
    refine q_iadd hG rfl ?_
    refine q_iadd hG rfl ?_
    refine q_istore hG rfl rfl ?_
    refine q_iload hG rfl rfl ?_
    refine q_aload_n hG rfl rfl ?_
    refine q_iload hG rfl rfl ?_
    refine q_callV6 hG rfl rfl rfl hX9 (t_fLow t hk ?_)
    refine q_icmp_ne hG rfl ⟨by omega, by omega⟩ ⟨by omega, by omega⟩ (fun hc258 => ?_) (fun hc258 => ?_)
    · refine q_iconst (v := 1) hG rfl rfl ?_
      refine q_goto hG rfl ?_
      refine q_istore hG rfl rfl ?_
      refine hend _ _ _ _ ?_ ?_ ?_ (Or.inr ⟨rfl, by omega⟩)
      · rw [h5]; show _ = sm (fxK R) k + fxK R k; rw [show fxK R k = 1 from if_pos (by omega)]
      · rw [h6]; rfl
      · rw [h7]; rfl
    · refine q_iload hG rfl rfl ?_
      refine q_aload_n hG rfl rfl ?_
      refine q_iload hG rfl rfl ?_
      refine q_callV6 hG rfl rfl rfl hX9 (t_fHigh t hk ?_)
      refine q_icmp_eq hG rfl ⟨by omega, by omega⟩ ⟨by omega, by omega⟩ (fun hc269 => ?_) (fun hc269 => ?_)
      · refine q_iconst (v := 0) hG rfl rfl ?_
        refine q_istore hG rfl rfl ?_
        refine hend _ _ _ _ ?_ ?_ ?_ (Or.inl ⟨rfl, by omega, by omega⟩)
        · rw [h5]; show _ = sm (fxK R) k + fxK R k; rw [show fxK R k = 1 from if_pos (by omega)]
        · rw [h6]; rfl
        · rw [h7]; rfl
      · refine q_iconst (v := 1) hG rfl rfl ?_
        refine q_goto hG rfl ?_
        refine q_istore hG rfl rfl ?_
        refine hend _ _ _ _ ?_ ?_ ?_ (Or.inr ⟨rfl, by omega⟩)
        · rw [h5]; show _ = sm (fxK R) k + fxK R k; rw [show fxK R k = 1 from if_pos (by omega)]
        · rw [h6]; rfl
        · rw [h7]; rfl
theorem lw_B4 {d : Nat} {Post : Out → HP → Prop} {G : Nat → LV → List Value → HP → Prop} (hG : Cl (Sp (d + 19)) md_L_law Post G) {M L : Nat} {R : RW} {B : HP} {I : IM} (t : TI M L 4 R B I) (hM : M + 60 ≤ 5000) {tn : Nat} {f5 f6 f7 z9 : Int} {k : Nat} (hk : (k : Int) < R 0) {l15 l16 l17 : Option Value} {s9 : Int}  (hend : ∀ (C : HP) (J : IM), TI (M + 2) L 4 R C J → G 305 [some (.ref (BIG + 20)), some (.ref 0), some (.int (i3 (tn : Int))), some (.int (i3 (R 0))), some (.int (i3 (R 1))), some (.int (i3 f5)), some (.int (i3 f6)), some (.int (i3 f7)), some (.int (i3 0)), some (.int (i3 z9)), some (.int (i3 ((k : Int)))), some (.int (i3 (R (5 + 4 * k + 2)))), some (.int (i3 (R (5 + 4 * k + 3)))), some (.int (i3 (tkR R (k : Int)))), some (.int (i3 (s9))), l15, l16, l17] [] (wI C J)) : G 279 [some (.ref (BIG + 20)), some (.ref 0), some (.int (i3 (tn : Int))), some (.int (i3 (R 0))), some (.int (i3 (R 1))), some (.int (i3 f5)), some (.int (i3 f6)), some (.int (i3 f7)), some (.int (i3 0)), some (.int (i3 z9)), some (.int (i3 ((k : Int)))), some (.int (i3 (R (5 + 4 * k + 2)))), some (.int (i3 (R (5 + 4 * k + 3)))), some (.int (i3 (tkR R (k : Int)))), some (.int (i3 (s9))), l15, l16, l17] [] (wI B I) := by
  have b0 := t.b0
  have b1 := t.b1
  have dd := t.dd
  have hX9 := t.lx.1
  have nn := t.nn
  have dk := t.door hk
  refine q_aload_n hG rfl rfl ?_
  refine q_iload hG rfl rfl ?_
  refine q_callV6 hG rfl rfl rfl hX9 (t_conOf t hk ?_)
  refine q_iload hG rfl rfl ?_
  refine q_icmpne_same hG rfl ?_
  refine q_aload_n hG rfl rfl ?_
  refine q_iload hG rfl rfl ?_
  refine q_callS0 hG rfl rfl rfl (s_L_lowest t (by omega) hk (fun C J t2 => ?_))
  refine q_aload_n hG rfl rfl ?_
  refine q_iload hG rfl rfl ?_
  refine q_callS0 hG rfl rfl rfl (s_L_byPaths t2 (by omega) hk (fun C2 J2 t3 => ?_))
  refine q_icmpne_same hG rfl ?_
  exact hend C2 J2 t3
