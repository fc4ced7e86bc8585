/-! the reference's sets of heights -/
def lgc (u v : Int64) : Int := if u = v then 0 else if v < u then 1 else -1
theorem lgc_i (u v : Int64) : lg_cmp u v = i3 (lgc u v) := by
  unfold lg_cmp lgc
  by_cases h : u = v
  · subst h
    rw [if_pos rfl, if_neg (by rw [gt_iff_lt, Int64.lt_iff_toInt_lt]; omega), if_pos rfl]
    rfl
  · rw [if_neg h, if_neg h]
    by_cases h2 : v < u
    · rw [if_pos h2, if_pos h2]; rfl
    · rw [if_neg h2, if_neg h2]; rfl
theorem lgc_0 {u v : Int64} : lgc u v = 0 ↔ u = v := by
  unfold lgc
  by_cases h : u = v
  · rw [if_pos h]; exact ⟨fun _ => h, fun _ => rfl⟩
  · rw [if_neg h]
    refine ⟨fun q => ?_, fun q => absurd q h⟩
    split at q <;> omega
theorem lgc_r (u v : Int64) : r32 (lgc u v) := by
  unfold lgc r32
  split
  · omega
  · split <;> omega
theorem q_lcmpv {S : SpecT} {M : MDT} {Post : Out → HP → Prop} {G : Nat → LV → List Value → HP → Prop} {pc nx : Nat} {cst : Int32} {x : List Nat} {L : LV} {r : List Value} {A : HP} (hG : Cl S M Post G) {v u : _} (hl : lk pc M.1 = some (.lcmp, nx, cst, x)) (h : G nx L (.int (i3 (lgc u v)) :: r) A) : G pc L (.long v :: .long u :: r) (A) := q_lcmp hG hl (by rw [lgc_i]; exact h)

theorem s_R_from {d : Nat} {B : HP} {I : IM} {Post : Out → HP → Prop} {n : Int} (hn : r32 n) (hp : Post (.inl (some (.long (fromV n)))) (wI B I)) : Sp (d + 1) k_X9_from [.int (i3 (n))] (wI B I) Post := by
  refine Sp_intro md_X9_from rfl rfl (fun G hG => ?_)
  show G 0 [some (.int (i3 (n)))] [] (wI B I)
  refine q_iload_n hG rfl rfl ?_
  refine q_bipush (v := 40) hG rfl rfl ?_
  refine q_icmp_le hG rfl (hn) ⟨by omega, by omega⟩ (fun hc3 => ?_) (fun hc3 => ?_)
  · refine q_iload_n hG rfl rfl ?_
    refine q_if_gt hG rfl (hn) (fun hc11 => ?_) (fun hc11 => ?_)
    · refine q_ldc2 hG rfl ?_
      refine q_ldc2n hG rfl ?_
      refine q_iload_n hG rfl rfl ?_
      refine q_lshl hG rfl ?_
      refine q_land hG rfl ?_
      refine q_lret hG rfl ?_
      unfold fromV at hp
      first
      | (rw [if_pos (by omega)] at hp; exact hp)
      | (rw [if_neg (by omega), if_pos (by omega)] at hp; exact hp)
      | (rw [if_neg (by omega), if_neg (by omega)] at hp; exact hp)
    · refine q_ldc2 hG rfl ?_
      refine q_goto hG rfl ?_
      refine q_lret hG rfl ?_
      unfold fromV at hp
      first
      | (rw [if_pos (by omega)] at hp; exact hp)
      | (rw [if_neg (by omega), if_pos (by omega)] at hp; exact hp)
      | (rw [if_neg (by omega), if_neg (by omega)] at hp; exact hp)
  · refine q_lconst0 hG rfl ?_
    refine q_goto hG rfl ?_
    refine q_lret hG rfl ?_
    unfold fromV at hp
    first
    | (rw [if_pos (by omega)] at hp; exact hp)
    | (rw [if_neg (by omega), if_pos (by omega)] at hp; exact hp)
    | (rw [if_neg (by omega), if_neg (by omega)] at hp; exact hp)
theorem s_R_till {d : Nat} {B : HP} {I : IM} {Post : Out → HP → Prop} {n : Int} (hn : r32 n) (hp : Post (.inl (some (.long (tillV n)))) (wI B I)) : Sp (d + 1) k_X9_till [.int (i3 (n))] (wI B I) Post := by
  refine Sp_intro md_X9_till rfl rfl (fun G hG => ?_)
  show G 0 [some (.int (i3 (n)))] [] (wI B I)
  refine q_iload_n hG rfl rfl ?_
  refine q_if_ge hG rfl (hn) (fun hc1 => ?_) (fun hc1 => ?_)
  · refine q_iload_n hG rfl rfl ?_
    refine q_bipush (v := 40) hG rfl rfl ?_
    refine q_icmp_lt hG rfl (hn) ⟨by omega, by omega⟩ (fun hc11 => ?_) (fun hc11 => ?_)
    · refine q_lconst1 hG rfl ?_
      refine q_iload_n hG rfl rfl ?_
      refine q_iconst (v := 1) hG rfl rfl ?_
      refine q_iadd hG rfl ?_
      refine q_lshl hG rfl ?_
      refine q_lconst1 hG rfl ?_
      refine q_lsub hG rfl ?_
      refine q_lret hG rfl ?_
      unfold tillV at hp
      first
      | (rw [if_pos (by omega)] at hp; exact hp)
      | (rw [if_neg (by omega), if_pos (by omega)] at hp; exact hp)
      | (rw [if_neg (by omega), if_neg (by omega)] at hp; exact hp)
    · refine q_ldc2 hG rfl ?_
      refine q_goto hG rfl ?_
      refine q_lret hG rfl ?_
      unfold tillV at hp
      first
      | (rw [if_pos (by omega)] at hp; exact hp)
      | (rw [if_neg (by omega), if_pos (by omega)] at hp; exact hp)
      | (rw [if_neg (by omega), if_neg (by omega)] at hp; exact hp)
  · refine q_lconst0 hG rfl ?_
    refine q_goto hG rfl ?_
    refine q_lret hG rfl ?_
    unfold tillV at hp
    first
    | (rw [if_pos (by omega)] at hp; exact hp)
    | (rw [if_neg (by omega), if_pos (by omega)] at hp; exact hp)
    | (rw [if_neg (by omega), if_neg (by omega)] at hp; exact hp)
theorem vd63 {v : Int64} (h : vd v) : bt v 63 = false := h 63 (by decide)
theorem bt_in {v : Int64} (hv : vd v) {k : Nat} (hk : k ≤ 40) : ((v >>> shA (k : Int)) &&& 1 = 0 ↔ bt v k = false) ∧ ((v >>> shA (k : Int)) &&& 1 = 1 ↔ bt v k = true) := by
  rw [and1 v (vd63 hv) (n := (k : Int)) ⟨by omega, by omega⟩]
  show ((if bt v k = true then (1 : Int64) else 0) = 0 ↔ _) ∧ ((if bt v k = true then (1 : Int64) else 0) = 1 ↔ _)
  cases bt v k
  · exact ⟨⟨fun _ => rfl, fun _ => rfl⟩, ⟨fun z => absurd z (by decide), fun z => absurd z (by decide)⟩⟩
  · exact ⟨⟨fun z => absurd z (by decide), fun z => absurd z (by decide)⟩, ⟨fun _ => rfl, fun _ => rfl⟩⟩
def szV (v : Int64) : Int := sm (fun k => if bt v k then 1 else 0) 41
theorem s_R_low {d : Nat} {B : HP} {I : IM} {Post : Out → HP → Prop} {v : Int64} (hv : vd v) (h0 : v ≠ 0) (hp : ∀ k : Nat, k ≤ 40 → bt v k = true → (∀ j, j < k → bt v j = false) → Post (.inl (some (.int (i3 (k : Int))))) (wI B I)) : Sp (d + 1) k_X9_lowest [.long v] (wI B I) Post := by
  refine Sp_intro md_X9_lowest rfl rfl (fun G hG => ?_)
  obtain ⟨t, t1, t2⟩ := vd_ex hv h0
  have lp : ∀ (mz : Nat) (k : Nat), 41 - k = mz → k ≤ t → (∀ j, j < k → bt v j = false) → G 2 [some (.long v), none, some (.int (i3 (k : Int)))] [] (wI B I) := by
    intro mz
    induction mz using Nat.strongRecOn with
    | ind mz ih =>
      intro k hme hk hno
      refine q_lload_n hG rfl rfl ?_
      refine q_iload_n hG rfl rfl ?_
      refine q_lshr hG rfl ?_
      refine q_lconst1 hG rfl ?_
      refine q_land hG rfl ?_
      refine q_lconst0 hG rfl ?_
      refine q_lcmpv hG rfl ?_
      refine q_if_ne hG rfl (lgc_r _ _) (fun hc9 => ?_) (fun hc9 => ?_)
      · refine q_iload_n hG rfl rfl ?_
        refine q_iret0 hG rfl rfl ?_
        refine hp k (by omega) ?_ hno
        cases e : bt v k
        · exact absurd (lgc_0.mpr ((bt_in hv (by omega)).1.mpr e)) hc9
        · rfl
      · refine q_iinc (c := 1) hG rfl rfl rfl rfl ?_
        refine q_goto hG rfl ?_
        have q9 : lgc ((v >>> shA (k : Int)) &&& 1) 0 = 0 := by
          first
          | exact hc9
          | exact Decidable.not_not.mp hc9
        have e0 : bt v k = false := (bt_in hv (by omega)).1.mp (lgc_0.mp q9)
        have ne : k ≠ t := fun z => by rw [z, t2] at e0; exact absurd e0 (by decide)
        exact ih _ (by omega) (k + 1) rfl (by omega) (fun j hj => if e : j = k then by rw [e]; exact e0 else hno j (by omega))
  show G 0 [some (.long v), none, none] [] (wI B I)
  refine q_iconst (v := 0) hG rfl rfl ?_
  refine q_istore_n hG rfl rfl ?_
  exact lp _ 0 rfl (by omega) (fun j hj => by omega)
theorem s_R_high {d : Nat} {B : HP} {I : IM} {Post : Out → HP → Prop} {v : Int64} (hv : vd v) (h0 : v ≠ 0) (hp : ∀ k : Nat, k ≤ 40 → bt v k = true → (∀ j, k < j → bt v j = false) → Post (.inl (some (.int (i3 (k : Int))))) (wI B I)) : Sp (d + 1) k_X9_highest [.long v] (wI B I) Post := by
  refine Sp_intro md_X9_highest rfl rfl (fun G hG => ?_)
  obtain ⟨t, t1, t2⟩ := vd_ex hv h0
  have lp : ∀ (mz : Nat) (k : Nat), k = mz → t ≤ k → k ≤ 40 → (∀ j, k < j → bt v j = false) → G 3 [some (.long v), none, some (.int (i3 (k : Int)))] [] (wI B I) := by
    intro mz
    induction mz using Nat.strongRecOn with
    | ind mz ih =>
      intro k hme hk hk2 hno
      refine q_lload_n hG rfl rfl ?_
      refine q_iload_n hG rfl rfl ?_
      refine q_lshr hG rfl ?_
      refine q_lconst1 hG rfl ?_
      refine q_land hG rfl ?_
      refine q_lconst0 hG rfl ?_
      refine q_lcmpv hG rfl ?_
      refine q_if_ne hG rfl (lgc_r _ _) (fun hc10 => ?_) (fun hc10 => ?_)
      · refine q_iload_n hG rfl rfl ?_
        refine q_iret0 hG rfl rfl ?_
        refine hp k (by omega) ?_ hno
        cases e : bt v k
        · exact absurd (lgc_0.mpr ((bt_in hv (by omega)).1.mpr e)) hc10
        · rfl
      · refine q_iinc (c := -1) hG rfl rfl rfl rfl ?_
        refine q_goto hG rfl ?_
        have q9 : lgc ((v >>> shA (k : Int)) &&& 1) 0 = 0 := by
          first
          | exact hc10
          | exact Decidable.not_not.mp hc10
        have e0 : bt v k = false := (bt_in hv (by omega)).1.mp (lgc_0.mp q9)
        have ne : k ≠ t := fun z => by rw [z, t2] at e0; exact absurd e0 (by decide)
        obtain ⟨k2, rfl⟩ : ∃ k2, k = k2 + 1 := ⟨k - 1, by omega⟩
        refine Eq.mp ?_ (ih k2 (by omega) k2 rfl (by omega) (by omega) (fun j hj => if e : j = k2 + 1 then by rw [e]; exact e0 else hno j (by omega)))
        congr 1
        show [_, _, some (Value.int (i3 (k2 : Int)))] = [_, _, some (Value.int (i3 (((k2 + 1 : Nat) : Int) + -1)))]
        rw [show (((k2 + 1 : Nat) : Int) + -1) = (k2 : Int) by omega]
  show G 0 [some (.long v), none, none] [] (wI B I)
  refine q_bipush (v := 40) hG rfl rfl ?_
  refine q_istore_n hG rfl rfl ?_
  exact lp _ 40 rfl t1 (by omega) (fun j hj => hv j hj)
theorem s_R_size {d : Nat} {B : HP} {I : IM} {Post : Out → HP → Prop} {v : Int64} (hv : vd v) (hp : Post (.inl (some (.int (i3 (szV v))))) (wI B I)) : Sp (d + 1) k_X9_size [.long v] (wI B I) Post := by
  refine Sp_intro md_X9_size rfl rfl (fun G hG => ?_)
  have hsz : ∀ n : Nat, n ≤ 41 → 0 ≤ sm (fun k => if bt v k then (1 : Int) else 0) n ∧ sm (fun k => if bt v k then (1 : Int) else 0) n ≤ 41 := fun n hn => by
    have a := sm_bd (f := fun k => if bt v k then (1 : Int) else 0) (a := 0) (b := 1) n (fun k _ => by
      show 0 ≤ (if bt v k = true then (1 : Int) else 0) ∧ (if bt v k = true then (1 : Int) else 0) ≤ 1
      split <;> omega)
    omega
  have lp : ∀ (mz : Nat) (k : Nat), 41 - k = mz → k ≤ 41 → G 4 [some (.long v), none, some (.int (i3 (sm (fun k => if bt v k then (1 : Int) else 0) k))), some (.int (i3 (k : Int)))] [] (wI B I) := by
    intro mz
    induction mz using Nat.strongRecOn with
    | ind mz ih =>
      intro k hme hk
      refine q_iload_n hG rfl rfl ?_
      refine q_bipush (v := 40) hG rfl rfl ?_
      refine q_icmp_gt hG rfl ⟨by omega, by omega⟩ ⟨by omega, by omega⟩ (fun hc7 => ?_) (fun hc7 => ?_)
      · refine q_iload_n hG rfl rfl ?_
        refine q_iret0 hG rfl rfl ?_
        unfold szV at hp
        rw [show (41 : Nat) = k by omega] at hp
        exact hp
      · have hs := hsz k hk
        refine q_iload_n hG rfl rfl ?_
        refine q_lload_n hG rfl rfl ?_
        refine q_iload_n hG rfl rfl ?_
        refine q_lshr hG rfl ?_
        refine q_lconst1 hG rfl ?_
        refine q_land hG rfl ?_
        refine q_lconst1 hG rfl ?_
        refine q_lcmpv hG rfl ?_
        refine q_if_ne hG rfl (lgc_r _ _) (fun hc18 => ?_) (fun hc18 => ?_)
        · refine q_iconst (v := 0) hG rfl rfl ?_
          refine q_iadd hG rfl ?_
          refine q_istore_n hG rfl rfl ?_
          refine q_iinc (c := 1) hG rfl rfl rfl rfl ?_
          refine q_goto hG rfl ?_
          refine Eq.mp ?_ (ih _ (by omega) (k + 1) rfl (by omega))
          congr 1
          show [_, _, some (Value.int (i3 (sm (fun k => if bt v k then (1 : Int) else 0) k + (if bt v k = true then (1 : Int) else 0)))), _] = [_, _, _, _]
          have b2 := (bt_in (k := k) hv (by omega)).2
          have b3 : lgc ((v >>> shA (k : Int)) &&& 1) 1 = 0 ↔ bt v k = true := lgc_0.trans b2
          first
          | (rw [if_neg (fun z => hc18 (b3.mpr z))]; rfl)
          | (rw [if_pos (b3.mp hc18)]; rfl)
          | (rw [if_pos (b3.mp (Decidable.not_not.mp hc18))]; rfl)
        · refine q_iconst (v := 1) hG rfl rfl ?_
          refine q_goto hG rfl ?_
          refine q_iadd hG rfl ?_
          refine q_istore_n hG rfl rfl ?_
          refine q_iinc (c := 1) hG rfl rfl rfl rfl ?_
          refine q_goto hG rfl ?_
          refine Eq.mp ?_ (ih _ (by omega) (k + 1) rfl (by omega))
          congr 1
          show [_, _, some (Value.int (i3 (sm (fun k => if bt v k then (1 : Int) else 0) k + (if bt v k = true then (1 : Int) else 0)))), _] = [_, _, _, _]
          have b2 := (bt_in (k := k) hv (by omega)).2
          have b3 : lgc ((v >>> shA (k : Int)) &&& 1) 1 = 0 ↔ bt v k = true := lgc_0.trans b2
          first
          | (rw [if_neg (fun z => hc18 (b3.mpr z))]; rfl)
          | (rw [if_pos (b3.mp hc18)]; rfl)
          | (rw [if_pos (b3.mp (Decidable.not_not.mp hc18))]; rfl)
  show G 0 [some (.long v), none, none, none] [] (wI B I)
  refine q_iconst (v := 0) hG rfl rfl ?_
  refine q_istore_n hG rfl rfl ?_
  refine q_iconst (v := 0) hG rfl rfl ?_
  refine q_istore_n hG rfl rfl ?_
  exact lp _ 0 rfl (by omega)
