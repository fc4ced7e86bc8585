/-! the reference's sets of heights -/
def lgc (u v : Int64) : Int := if u = v then 0 else if v < u then 1 else -1
theorem lgc_i (u v : Int64) : lg_cmp u v = i3 (lgc u v) := by
  unfold lg_cmp lgc
  by_cases h : u = v
  · subst h
    rw [if_pos rfl, if_neg (by rw [gt_iff_lt, Int64.lt_iff_toInt_lt]; omega), if_pos rfl]
    rfl
  · rw [if_neg h, if_neg h]
    by_cases h2 : v < u
    · rw [if_pos h2, if_pos h2]; rfl
    · rw [if_neg h2, if_neg h2]; rfl
theorem lgc_0 {u v : Int64} : lgc u v = 0 ↔ u = v := by
  unfold lgc
  by_cases h : u = v
  · rw [if_pos h]; exact ⟨fun _ => h, fun _ => rfl⟩
  · rw [if_neg h]
    refine ⟨fun q => ?_, fun q => absurd q h⟩
    split at q <;> omega
theorem lgc_r (u v : Int64) : r32 (lgc u v) := by
  unfold lgc r32
  split
  · omega
  · split <;> omega
theorem q_lcmpv {S : SpecT} {M : MDT} {Post : Out → HP → Prop} {G : Nat → LV → List Value → HP → Prop} {pc nx : Nat} {cst : Int32} {x : List Nat} {L : LV} {r : List Value} {A : HP} (hG : Cl S M Post G) {v u : _} (hl : lk pc M.1 = some (.lcmp, nx, cst, x)) (h : G nx L (.int (i3 (lgc u v)) :: r) A) : G pc L (.long v :: .long u :: r) (A) := q_lcmp hG hl (by rw [lgc_i]; exact h)

theorem s_R_from {d : Nat} {B : HP} {I : IM} {Post : Out → HP → Prop} {n : Int} (hn : r32 n) (hp : Post (.inl (some (.long (fromV n)))) (wI B I)) : Sp (d + 1) k_X9_from [.int (i3 (n))] (wI B I) Post := by
  refine Sp_intro md_X9_from rfl rfl (fun G hG => ?_)
  show G 0 [some (.int (i3 (n)))] [] (wI B I)
  refine q_iload_n hG rfl rfl ?_
  refine q_bipush (v := 40) hG rfl rfl ?_
  refine q_icmp_le hG rfl (hn) ⟨by omega, by omega⟩ (fun hc3 => ?_) (fun hc3 => ?_)
  · refine q_iload_n hG rfl rfl ?_
    refine q_if_gt hG rfl (hn) (fun hc11 => ?_) (fun hc11 => ?_)
    · refine q_ldc2 hG rfl ?_
      refine q_ldc2n hG rfl ?_
      refine q_iload_n hG rfl rfl ?_
      refine q_lshl hG rfl ?_
      refine q_land hG rfl ?_
      refine q_lret hG rfl ?_
      unfold fromV at hp
      first
      | (rw [if_pos (by omega)] at hp; exact hp)
      | (rw [if_neg (by omega), if_pos (by omega)] at hp; exact hp)
      | (rw [if_neg (by omega), if_neg (by omega)] at hp; exact hp)
    · refine q_ldc2 hG rfl ?_
      refine q_goto hG rfl ?_
      refine q_lret hG rfl ?_
      unfold fromV at hp
      first
      | (rw [if_pos (by omega)] at hp; exact hp)
      | (rw [if_neg (by omega), if_pos (by omega)] at hp; exact hp)
      | (rw [if_neg (by omega), if_neg (by omega)] at hp; exact hp)
  · refine q_lconst0 hG rfl ?_
    refine q_goto hG rfl ?_
    refine q_lret hG rfl ?_
    unfold fromV at hp
    first
    | (rw [if_pos (by omega)] at hp; exact hp)
    | (rw [if_neg (by omega), if_pos (by omega)] at hp; exact hp)
    | (rw [if_neg (by omega), if_neg (by omega)] at hp; exact hp)
theorem s_R_till {d : Nat} {B : HP} {I : IM} {Post : Out → HP → Prop} {n : Int} (hn : r32 n) (hp : Post (.inl (some (.long (tillV n)))) (wI B I)) : Sp (d + 1) k_X9_till [.int (i3 (n))] (wI B I) Post := by
  refine Sp_intro md_X9_till rfl rfl (fun G hG => ?_)
  show G 0 [some (.int (i3 (n)))] [] (wI B I)
  refine q_iload_n hG rfl rfl ?_
  refine q_if_ge hG rfl (hn) (fun hc1 => ?_) (fun hc1 => ?_)
  · refine q_iload_n hG rfl rfl ?_
    refine q_bipush (v := 40) hG rfl rfl ?_
    refine q_icmp_lt hG rfl (hn) ⟨by omega, by omega⟩ (fun hc11 => ?_) (fun hc11 => ?_)
    · refine q_lconst1 hG rfl ?_
      refine q_iload_n hG rfl rfl ?_
      refine q_iconst (v := 1) hG rfl rfl ?_
      refine q_iadd hG rfl ?_
      refine q_lshl hG rfl ?_
      refine q_lconst1 hG rfl ?_
      refine q_lsub hG rfl ?_
      refine q_lret hG rfl ?_
      unfold tillV at hp
      first
      | (rw [if_pos (by omega)] at hp; exact hp)
      | (rw [if_neg (by omega), if_pos (by omega)] at hp; exact hp)
      | (rw [if_neg (by omega), if_neg (by omega)] at hp; exact hp)
    · refine q_ldc2 hG rfl ?_
      refine q_goto hG rfl ?_
      refine q_lret hG rfl ?_
      unfold tillV at hp
      first
      | (rw [if_pos (by omega)] at hp; exact hp)
      | (rw [if_neg (by omega), if_pos (by omega)] at hp; exact hp)
      | (rw [if_neg (by omega), if_neg (by omega)] at hp; exact hp)
  · refine q_lconst0 hG rfl ?_
    refine q_goto hG rfl ?_
    refine q_lret hG rfl ?_
    unfold tillV at hp
    first
    | (rw [if_pos (by omega)] at hp; exact hp)
    | (rw [if_neg (by omega), if_pos (by omega)] at hp; exact hp)
    | (rw [if_neg (by omega), if_neg (by omega)] at hp; exact hp)
theorem vd63 {v : Int64} (h : vd v) : bt v 63 = false := h 63 (by decide)
theorem bt_in {v : Int64} (hv : vd v) {k : Nat} (hk : k ≤ 40) : ((v >>> shA (k : Int)) &&& 1 = 0 ↔ bt v k = false) ∧ ((v >>> shA (k : Int)) &&& 1 = 1 ↔ bt v k = true) := by
  rw [and1 v (vd63 hv) (n := (k : Int)) ⟨by omega, by omega⟩]
  show ((if bt v k = true then (1 : Int64) else 0) = 0 ↔ _) ∧ ((if bt v k = true then (1 : Int64) else 0) = 1 ↔ _)
  cases bt v k
  · exact ⟨⟨fun _ => rfl, fun _ => rfl⟩, ⟨fun z => absurd z (by decide), fun z => absurd z (by decide)⟩⟩
  · exact ⟨⟨fun z => absurd z (by decide), fun z => absurd z (by decide)⟩, ⟨fun _ => rfl, fun _ => rfl⟩⟩
def szV (v : Int64) : Int := sm (fun k => if bt v k then 1 else 0) 41
theorem s_R_low {d : Nat} {B : HP} {I : IM} {Post : Out → HP → Prop} {v : Int64} (hv : vd v) (h0 : v ≠ 0) (hp : ∀ k : Nat, k ≤ 40 → bt v k = true → (∀ j, j < k → bt v j = false) → Post (.inl (some (.int (i3 (k : Int))))) (wI B I)) : Sp (d + 1) k_X9_lowest [.long v] (wI B I) Post := by
  refine Sp_intro md_X9_lowest rfl rfl (fun G hG => ?_)
  obtain ⟨t, t1, t2⟩ := vd_ex hv h0
  have lp : ∀ (mz : Nat) (k : Nat), 41 - k = mz → k ≤ t → (∀ j, j < k → bt v j = false) → G 2 [some (.long v), none, some (.int (i3 (k : Int)))] [] (wI B I) := by
    intro mz
    induction mz using Nat.strongRecOn with
    | ind mz ih =>
      intro k hme hk hno
      refine q_lload_n hG rfl rfl ?_
      refine q_iload_n hG rfl rfl ?_
      refine q_lshr hG rfl ?_
      refine q_lconst1 hG rfl ?_
      refine q_land hG rfl ?_
      refine q_lconst0 hG rfl ?_
      refine q_lcmpv hG rfl ?_
      refine q_if_ne hG rfl (lgc_r _ _) (fun hc9 => ?_) (fun hc9 => ?_)
      · refine q_iload_n hG rfl rfl ?_
        refine q_iret0 hG rfl rfl ?_
        refine hp k (by omega) ?_ hno
        cases e : bt v k
        · exact absurd (lgc_0.mpr ((bt_in hv (by omega)).1.mpr e)) hc9
        · rfl
      · refine q_iinc (c := 1) hG rfl rfl rfl rfl ?_
        refine q_goto hG rfl ?_
        have q9 : lgc ((v >>> shA (k : Int)) &&& 1) 0 = 0 := by
          first
          | exact hc9
          | exact Decidable.not_not.mp hc9
        have e0 : bt v k = false := (bt_in hv (by omega)).1.mp (lgc_0.mp q9)
        have ne : k ≠ t := fun z => by rw [z, t2] at e0; exact absurd e0 (by decide)
        exact ih _ (by omega) (k + 1) rfl (by omega) (fun j hj => if e : j = k then by rw [e]; exact e0 else hno j (by omega))
  show G 0 [some (.long v), none, none] [] (wI B I)
  refine q_iconst (v := 0) hG rfl rfl ?_
  refine q_istore_n hG rfl rfl ?_
  exact lp _ 0 rfl (by omega) (fun j hj => by omega)
theorem s_R_high {d : Nat} {B : HP} {I : IM} {Post : Out → HP → Prop} {v : Int64} (hv : vd v) (h0 : v ≠ 0) (hp : ∀ k : Nat, k ≤ 40 → bt v k = true → (∀ j, k < j → bt v j = false) → Post (.inl (some (.int (i3 (k : Int))))) (wI B I)) : Sp (d + 1) k_X9_highest [.long v] (wI B I) Post := by
  refine Sp_intro md_X9_highest rfl rfl (fun G hG => ?_)
  obtain ⟨t, t1, t2⟩ := vd_ex hv h0
  have lp : ∀ (mz : Nat) (k : Nat), k = mz → t ≤ k → k ≤ 40 → (∀ j, k < j → bt v j = false) → G 3 [some (.long v), none, some (.int (i3 (k : Int)))] [] (wI B I) := by
    intro mz
    induction mz using Nat.strongRecOn with
    | ind mz ih =>
      intro k hme hk hk2 hno
      refine q_lload_n hG rfl rfl ?_
      refine q_iload_n hG rfl rfl ?_
      refine q_lshr hG rfl ?_
      refine q_lconst1 hG rfl ?_
      refine q_land hG rfl ?_
      refine q_lconst0 hG rfl ?_
      refine q_lcmpv hG rfl ?_
      refine q_if_ne hG rfl (lgc_r _ _) (fun hc10 => ?_) (fun hc10 => ?_)
      · refine q_iload_n hG rfl rfl ?_
        refine q_iret0 hG rfl rfl ?_
        refine hp k (by omega) ?_ hno
        cases e : bt v k
        · exact absurd (lgc_0.mpr ((bt_in hv (by omega)).1.mpr e)) hc10
        · rfl
      · refine q_iinc (c := -1) hG rfl rfl rfl rfl ?_
        refine q_goto hG rfl ?_
        have q9 : lgc ((v >>> shA (k : Int)) &&& 1) 0 = 0 := by
          first
          | exact hc10
          | exact Decidable.not_not.mp hc10
        have e0 : bt v k = false := (bt_in hv (by omega)).1.mp (lgc_0.mp q9)
        have ne : k ≠ t := fun z => by rw [z, t2] at e0; exact absurd e0 (by decide)
        obtain ⟨k2, rfl⟩ : ∃ k2, k = k2 + 1 := ⟨k - 1, by omega⟩
        refine Eq.mp ?_ (ih k2 (by omega) k2 rfl (by omega) (by omega) (fun j hj => if e : j = k2 + 1 then by rw [e]; exact e0 else hno j (by omega)))
        congr 1
        show [_, _, some (Value.int (i3 (k2 : Int)))] = [_, _, some (Value.int (i3 (((k2 + 1 : Nat) : Int) + -1)))]
        rw [show (((k2 + 1 : Nat) : Int) + -1) = (k2 : Int) by omega]
  show G 0 [some (.long v), none, none] [] (wI B I)
  refine q_bipush (v := 40) hG rfl rfl ?_
  refine q_istore_n hG rfl rfl ?_
  exact lp _ 40 rfl t1 (by omega) (fun j hj => hv j hj)
theorem s_R_size {d : Nat} {B : HP} {I : IM} {Post : Out → HP → Prop} {v : Int64} (hv : vd v) (hp : Post (.inl (some (.int (i3 (szV v))))) (wI B I)) : Sp (d + 1) k_X9_size [.long v] (wI B I) Post := by
  refine Sp_intro md_X9_size rfl rfl (fun G hG => ?_)
  have hsz : ∀ n : Nat, n ≤ 41 → 0 ≤ sm (fun k => if bt v k then (1 : Int) else 0) n ∧ sm (fun k => if bt v k then (1 : Int) else 0) n ≤ 41 := fun n hn => by
    have a := sm_bd (f := fun k => if bt v k then (1 : Int) else 0) (a := 0) (b := 1) n (fun k _ => by
      show 0 ≤ (if bt v k = true then (1 : Int) else 0) ∧ (if bt v k = true then (1 : Int) else 0) ≤ 1
      split <;> omega)
    omega
  have lp : ∀ (mz : Nat) (k : Nat), 41 - k = mz → k ≤ 41 → G 4 [some (.long v), none, some (.int (i3 (sm (fun k => if bt v k then (1 : Int) else 0) k))), some (.int (i3 (k : Int)))] [] (wI B I) := by
    intro mz
    induction mz using Nat.strongRecOn with
    | ind mz ih =>
      intro k hme hk
      refine q_iload_n hG rfl rfl ?_
      refine q_bipush (v := 40) hG rfl rfl ?_
      refine q_icmp_gt hG rfl ⟨by omega, by omega⟩ ⟨by omega, by omega⟩ (fun hc7 => ?_) (fun hc7 => ?_)
      · refine q_iload_n hG rfl rfl ?_
        refine q_iret0 hG rfl rfl ?_
        unfold szV at hp
        rw [show (41 : Nat) = k by omega] at hp
        exact hp
      · have hs := hsz k hk
        refine q_iload_n hG rfl rfl ?_
        refine q_lload_n hG rfl rfl ?_
        refine q_iload_n hG rfl rfl ?_
        refine q_lshr hG rfl ?_
        refine q_lconst1 hG rfl ?_
        refine q_land hG rfl ?_
        refine q_lconst1 hG rfl ?_
        refine q_lcmpv hG rfl ?_
        refine q_if_ne hG rfl (lgc_r _ _) (fun hc18 => ?_) (fun hc18 => ?_)
        · refine q_iconst (v := 0) hG rfl rfl ?_
          refine q_iadd hG rfl ?_
          refine q_istore_n hG rfl rfl ?_
          refine q_iinc (c := 1) hG rfl rfl rfl rfl ?_
          refine q_goto hG rfl ?_
          refine Eq.mp ?_ (ih _ (by omega) (k + 1) rfl (by omega))
          congr 1
          show [_, _, some (Value.int (i3 (sm (fun k => if bt v k then (1 : Int) else 0) k + (if bt v k = true then (1 : Int) else 0)))), _] = [_, _, _, _]
          have b2 := (bt_in (k := k) hv (by omega)).2
          have b3 : lgc ((v >>> shA (k : Int)) &&& 1) 1 = 0 ↔ bt v k = true := lgc_0.trans b2
          first
          | (rw [if_neg (fun z => hc18 (b3.mpr z))]; rfl)
          | (rw [if_pos (b3.mp hc18)]; rfl)
          | (rw [if_pos (b3.mp (Decidable.not_not.mp hc18))]; rfl)
        · refine q_iconst (v := 1) hG rfl rfl ?_
          refine q_goto hG rfl ?_
          refine q_iadd hG rfl ?_
          refine q_istore_n hG rfl rfl ?_
          refine q_iinc (c := 1) hG rfl rfl rfl rfl ?_
          refine q_goto hG rfl ?_
          refine Eq.mp ?_ (ih _ (by omega) (k + 1) rfl (by omega))
          congr 1
          show [_, _, some (Value.int (i3 (sm (fun k => if bt v k then (1 : Int) else 0) k + (if bt v k = true then (1 : Int) else 0)))), _] = [_, _, _, _]
          have b2 := (bt_in (k := k) hv (by omega)).2
          have b3 : lgc ((v >>> shA (k : Int)) &&& 1) 1 = 0 ↔ bt v k = true := lgc_0.trans b2
          first
          | (rw [if_neg (fun z => hc18 (b3.mpr z))]; rfl)
          | (rw [if_pos (b3.mp hc18)]; rfl)
          | (rw [if_pos (b3.mp (Decidable.not_not.mp hc18))]; rfl)
  show G 0 [some (.long v), none, none, none] [] (wI B I)
  refine q_iconst (v := 0) hG rfl rfl ?_
  refine q_istore_n hG rfl rfl ?_
  refine q_iconst (v := 0) hG rfl rfl ?_
  refine q_istore_n hG rfl rfl ?_
  exact lp _ 0 rfl (by omega)
/-- a constraint of two heights -/
def okE (K g a b : Int) : Prop := (K = 60 → a + g ≤ b) ∧ (K = 61 → a + g = b) ∧ (K ≠ 60 → K ≠ 61 → a + g ≤ b ∨ b + g ≤ a)
def rlE (K g w j k : Int) : Prop := if w = 0 then okE K g k j else okE K g j k
def gwR (K g w : Int) (v r : Int64) : Prop := vd r ∧ ∀ k : Nat, bt r k = true ↔ k ≤ 40 ∧ ∃ j : Nat, bt v j = true ∧ rlE K g w (j : Int) (k : Int)
theorem vd_of {r : Int64} {P : Nat → Prop} (h : ∀ k : Nat, bt r k = true ↔ k ≤ 40 ∧ P k) : vd r := fun k hk => by
  cases e : bt r k
  · rfl
  · have := ((h k).mp e).1; omega
theorem gw_mk {K g w : Int} {v r : Int64} (h : ∀ k : Nat, bt r k = true ↔ k ≤ 40 ∧ ∃ j : Nat, bt v j = true ∧ rlE K g w (j : Int) (k : Int)) : gwR K g w v r := ⟨vd_of h, h⟩
theorem gw_0 {K g w : Int} : gwR K g w 0 0 := gw_mk (fun k => ⟨fun z => by rw [bt_zero] at z; exact absurd z (by decide), fun ⟨_, j, z, _⟩ => by rw [bt_zero] at z; exact absurd z (by decide)⟩)
theorem rl60f {g j k : Int} : rlE 60 g 1 j k ↔ j + g ≤ k := by
  unfold rlE okE
  rw [if_neg (by decide)]
  exact ⟨fun h => h.1 rfl, fun h => ⟨fun _ => h, fun z => by omega, fun z => by omega⟩⟩
theorem rl60b {g j k : Int} : rlE 60 g 0 j k ↔ k + g ≤ j := by
  unfold rlE okE
  rw [if_pos rfl]
  exact ⟨fun h => h.1 rfl, fun h => ⟨fun _ => h, fun z => by omega, fun z => by omega⟩⟩
theorem rl61f {g j k : Int} : rlE 61 g 1 j k ↔ j + g = k := by
  unfold rlE okE
  rw [if_neg (by decide)]
  exact ⟨fun h => h.2.1 rfl, fun h => ⟨fun z => by omega, fun _ => h, fun _ z => by omega⟩⟩
theorem rl61b {g j k : Int} : rlE 61 g 0 j k ↔ k + g = j := by
  unfold rlE okE
  rw [if_pos rfl]
  exact ⟨fun h => h.2.1 rfl, fun h => ⟨fun z => by omega, fun _ => h, fun _ z => by omega⟩⟩
theorem rl35 {g w j k : Int} : rlE 35 g w j k ↔ j + g ≤ k ∨ k + g ≤ j := by
  unfold rlE okE
  split
  · exact ⟨fun h => (h.2.2 (by decide) (by decide)).symm, fun h => ⟨fun z => by omega, fun z => by omega, fun _ _ => h.symm⟩⟩
  · exact ⟨fun h => h.2.2 (by decide) (by decide), fun h => ⟨fun z => by omega, fun z => by omega, fun _ _ => h⟩⟩
theorem ge_lo {v : Int64} {lo : Nat} (h : ∀ j, j < lo → bt v j = false) {j : Nat} (hj : bt v j = true) : lo ≤ j := by
  by_cases e : j < lo
  · rw [h j e] at hj; exact absurd hj (by decide)
  · omega
theorem le_hi {v : Int64} {hi : Nat} (h : ∀ j, hi < j → bt v j = false) {j : Nat} (hj : bt v j = true) : j ≤ hi := by
  by_cases e : hi < j
  · rw [h j e] at hj; exact absurd hj (by decide)
  · omega
theorem gw_60f {g : Int} {v : Int64} {lo : Nat} (h1 : bt v lo = true) (h2 : ∀ j, j < lo → bt v j = false) : gwR 60 g 1 v (fromV ((lo : Int) + g)) := gw_mk (fun k => by
  rw [bt_from, decide_eq_true_iff]
  exact ⟨fun h => ⟨h.1, lo, h1, rl60f.mpr (by omega)⟩, fun ⟨h, j, j1, j2⟩ => ⟨h, by have a := ge_lo h2 j1; have b := rl60f.mp j2; omega⟩⟩)
theorem gw_60b {g : Int} {v : Int64} {hi : Nat} (h1 : bt v hi = true) (h2 : ∀ j, hi < j → bt v j = false) : gwR 60 g 0 v (tillV ((hi : Int) - g)) := gw_mk (fun k => by
  rw [bt_till, decide_eq_true_iff]
  exact ⟨fun h => ⟨h.1, hi, h1, rl60b.mpr (by omega)⟩, fun ⟨h, j, j1, j2⟩ => ⟨h, by have a := le_hi h2 j1; have b := rl60b.mp j2; omega⟩⟩)
theorem gw_35 {g w : Int} {v : Int64} {lo hi : Nat} (h1 : bt v lo = true) (h2 : ∀ j, j < lo → bt v j = false) (h3 : bt v hi = true) (h4 : ∀ j, hi < j → bt v j = false) : gwR 35 g w v (fromV ((lo : Int) + g) ||| tillV ((hi : Int) - g)) := gw_mk (fun k => by
  rw [bt_or, Bool.or_eq_true, bt_from, bt_till, decide_eq_true_iff, decide_eq_true_iff]
  refine ⟨fun h => ?_, fun ⟨h, j, j1, j2⟩ => ?_⟩
  · rcases h with h | h
    · exact ⟨h.1, lo, h1, rl35.mpr (Or.inl (by omega))⟩
    · exact ⟨h.1, hi, h3, rl35.mpr (Or.inr (by omega))⟩
  · have a := ge_lo h2 j1
    have b := le_hi h4 j1
    rcases rl35.mp j2 with q | q
    · exact Or.inl ⟨h, by omega⟩
    · exact Or.inr ⟨h, by omega⟩)
theorem gw_61f {g : Int} (hg : 0 ≤ g ∧ g ≤ 20) {v : Int64} : gwR 61 g 1 v ((v <<< shA g) &&& mkV) := gw_mk (fun k => by
  rw [bt_and, Bool.and_eq_true, bt_mk, decide_eq_true_iff, bt_shl _ (by omega)]
  refine ⟨fun ⟨h, hk⟩ => ?_, fun ⟨hk, j, j1, j2⟩ => ?_⟩
  · rw [Bool.and_eq_true, Bool.and_eq_true, decide_eq_true_iff, Bool.not_eq_true', decide_eq_false_iff_not] at h
    exact ⟨hk, k - g.toNat, h.2, rl61f.mpr (by omega)⟩
  · have e := rl61f.mp j2
    have e2 : k - g.toNat = j := by omega
    rw [e2, j1, decide_eq_true (show k < 64 by omega), decide_eq_false (show ¬ k < g.toNat by omega)]
    exact ⟨rfl, hk⟩)
theorem gw_61b {g : Int} (hg : 0 ≤ g ∧ g ≤ 20) {v : Int64} (hv : vd v) : gwR 61 g 0 v (v >>> shA g) := gw_mk (fun k => by
  rw [bt_shr _ (by omega) (vd63 hv)]
  refine ⟨fun h => ?_, fun ⟨hk, j, j1, j2⟩ => ?_⟩
  · have hk : k + g.toNat ≤ 40 := by
      by_cases z : 40 < k + g.toNat
      · rw [hv _ z] at h; exact absurd h (by decide)
      · omega
    exact ⟨by omega, k + g.toNat, h, rl61b.mpr (by omega)⟩
  · have e := rl61b.mp j2
    rw [show k + g.toNat = j by omega]
    exact j1)
theorem s_R_goesW {d : Nat} {B : HP} {I : IM} {Post : Out → HP → Prop} {K g w : Int} {v : Int64} (hv : vd v) (hK : K = 60 ∨ K = 61 ∨ K = 35) (hg : 0 ≤ g ∧ g ≤ 20) (hw : w = 0 ∨ w = 1) (hp : ∀ r : Int64, gwR K g w v r → Post (.inl (some (.long r))) (wI B I)) : Sp (d + 2) k_X9_goesWith [.int (i3 (K)), .long v, .int (i3 (g)), .int (i3 (w))] (wI B I) Post := by
  refine Sp_intro md_X9_goesWith rfl rfl (fun G hG => ?_)
  show G 0 [some (.int (i3 (K))), some (.long v), none, some (.int (i3 (g))), some (.int (i3 (w))), none, none] [] (wI B I)
  refine q_lload_n hG rfl rfl ?_
  refine q_lconst0 hG rfl ?_
  refine q_lcmpv hG rfl ?_
  refine q_if_ne hG rfl (lgc_r _ _) (fun hc3 => ?_) (fun hc3 => ?_)
  · have hv0 : v ≠ 0 := fun z => hc3 (lgc_0.mpr z)
    refine q_lload_n hG rfl rfl ?_
    refine q_callS0 hG rfl rfl rfl (s_R_low hv hv0 (fun lo l1 l2 l3 => ?_))
    refine q_istore hG rfl rfl ?_
    refine q_lload_n hG rfl rfl ?_
    refine q_callS0 hG rfl rfl rfl (s_R_high hv hv0 (fun hi m1 m2 m3 => ?_))
    refine q_istore hG rfl rfl ?_
    refine q_iload_n hG rfl rfl ?_
    refine q_bipush (v := 35) hG rfl rfl ?_
    refine q_icmp_ne hG rfl ⟨by omega, by omega⟩ ⟨by omega, by omega⟩ (fun hc23 => ?_) (fun hc23 => ?_)
    · refine q_iload_n hG rfl rfl ?_
      refine q_bipush (v := 61) hG rfl rfl ?_
      refine q_icmp_ne hG rfl ⟨by omega, by omega⟩ ⟨by omega, by omega⟩ (fun hc45 => ?_) (fun hc45 => ?_)
      · refine q_iload hG rfl rfl ?_
        refine q_if_eq hG rfl ⟨by omega, by omega⟩ (fun hc69 => ?_) (fun hc69 => ?_)
        · refine q_iload hG rfl rfl ?_
          refine q_iload_n hG rfl rfl ?_
          refine q_isub hG rfl ?_
          refine q_callS0 hG rfl rfl rfl (s_R_till ⟨by omega, by omega⟩ ?_)
          refine q_lret hG rfl ?_
          first
          | (refine hp _ ?_; rw [show K = 35 by omega]; exact gw_35 l2 l3 m2 m3)
          | (refine hp _ ?_; rw [show K = 61 by omega, show w = 1 by omega]; exact gw_61f hg)
          | (refine hp _ ?_; rw [show K = 61 by omega, show w = 0 by omega]; exact gw_61b hg hv)
          | (refine hp _ ?_; rw [show K = 60 by omega, show w = 1 by omega]; exact gw_60f l2 l3)
          | (refine hp _ ?_; rw [show K = 60 by omega, show w = 0 by omega]; exact gw_60b m2 m3)
          | (refine hp _ ?_; rw [show v = 0 from lgc_0.mp hc3]; exact gw_0)
          | (refine hp _ ?_; rw [show v = 0 from lgc_0.mp (Decidable.not_not.mp hc3)]; exact gw_0)
        · refine q_iload hG rfl rfl ?_
          refine q_iload_n hG rfl rfl ?_
          refine q_iadd hG rfl ?_
          refine q_callS0 hG rfl rfl rfl (s_R_from ⟨by omega, by omega⟩ ?_)
          refine q_goto hG rfl ?_
          refine q_lret hG rfl ?_
          first
          | (refine hp _ ?_; rw [show K = 35 by omega]; exact gw_35 l2 l3 m2 m3)
          | (refine hp _ ?_; rw [show K = 61 by omega, show w = 1 by omega]; exact gw_61f hg)
          | (refine hp _ ?_; rw [show K = 61 by omega, show w = 0 by omega]; exact gw_61b hg hv)
          | (refine hp _ ?_; rw [show K = 60 by omega, show w = 1 by omega]; exact gw_60f l2 l3)
          | (refine hp _ ?_; rw [show K = 60 by omega, show w = 0 by omega]; exact gw_60b m2 m3)
          | (refine hp _ ?_; rw [show v = 0 from lgc_0.mp hc3]; exact gw_0)
          | (refine hp _ ?_; rw [show v = 0 from lgc_0.mp (Decidable.not_not.mp hc3)]; exact gw_0)
      · refine q_iload hG rfl rfl ?_
        refine q_if_eq hG rfl ⟨by omega, by omega⟩ (fun hc50 => ?_) (fun hc50 => ?_)
        · refine q_lload_n hG rfl rfl ?_
          refine q_iload_n hG rfl rfl ?_
          refine q_lshr hG rfl ?_
          refine q_lret hG rfl ?_
          first
          | (refine hp _ ?_; rw [show K = 35 by omega]; exact gw_35 l2 l3 m2 m3)
          | (refine hp _ ?_; rw [show K = 61 by omega, show w = 1 by omega]; exact gw_61f hg)
          | (refine hp _ ?_; rw [show K = 61 by omega, show w = 0 by omega]; exact gw_61b hg hv)
          | (refine hp _ ?_; rw [show K = 60 by omega, show w = 1 by omega]; exact gw_60f l2 l3)
          | (refine hp _ ?_; rw [show K = 60 by omega, show w = 0 by omega]; exact gw_60b m2 m3)
          | (refine hp _ ?_; rw [show v = 0 from lgc_0.mp hc3]; exact gw_0)
          | (refine hp _ ?_; rw [show v = 0 from lgc_0.mp (Decidable.not_not.mp hc3)]; exact gw_0)
        · refine q_lload_n hG rfl rfl ?_
          refine q_iload_n hG rfl rfl ?_
          refine q_lshl hG rfl ?_
          refine q_ldc2 hG rfl ?_
          refine q_land hG rfl ?_
          refine q_goto hG rfl ?_
          refine q_lret hG rfl ?_
          first
          | (refine hp _ ?_; rw [show K = 35 by omega]; exact gw_35 l2 l3 m2 m3)
          | (refine hp _ ?_; rw [show K = 61 by omega, show w = 1 by omega]; exact gw_61f hg)
          | (refine hp _ ?_; rw [show K = 61 by omega, show w = 0 by omega]; exact gw_61b hg hv)
          | (refine hp _ ?_; rw [show K = 60 by omega, show w = 1 by omega]; exact gw_60f l2 l3)
          | (refine hp _ ?_; rw [show K = 60 by omega, show w = 0 by omega]; exact gw_60b m2 m3)
          | (refine hp _ ?_; rw [show v = 0 from lgc_0.mp hc3]; exact gw_0)
          | (refine hp _ ?_; rw [show v = 0 from lgc_0.mp (Decidable.not_not.mp hc3)]; exact gw_0)
    · refine q_iload hG rfl rfl ?_
      refine q_iload_n hG rfl rfl ?_
      refine q_iadd hG rfl ?_
      refine q_callS0 hG rfl rfl rfl (s_R_from ⟨by omega, by omega⟩ ?_)
      refine q_iload hG rfl rfl ?_
      refine q_iload_n hG rfl rfl ?_
      refine q_isub hG rfl ?_
      refine q_callS0 hG rfl rfl rfl (s_R_till ⟨by omega, by omega⟩ ?_)
      refine q_lor hG rfl ?_
      refine q_lret hG rfl ?_
      first
      | (refine hp _ ?_; rw [show K = 35 by omega]; exact gw_35 l2 l3 m2 m3)
      | (refine hp _ ?_; rw [show K = 61 by omega, show w = 1 by omega]; exact gw_61f hg)
      | (refine hp _ ?_; rw [show K = 61 by omega, show w = 0 by omega]; exact gw_61b hg hv)
      | (refine hp _ ?_; rw [show K = 60 by omega, show w = 1 by omega]; exact gw_60f l2 l3)
      | (refine hp _ ?_; rw [show K = 60 by omega, show w = 0 by omega]; exact gw_60b m2 m3)
      | (refine hp _ ?_; rw [show v = 0 from lgc_0.mp hc3]; exact gw_0)
      | (refine hp _ ?_; rw [show v = 0 from lgc_0.mp (Decidable.not_not.mp hc3)]; exact gw_0)
  · refine q_lconst0 hG rfl ?_
    refine q_lret hG rfl ?_
    first
    | (refine hp _ ?_; rw [show K = 35 by omega]; exact gw_35 l2 l3 m2 m3)
    | (refine hp _ ?_; rw [show K = 61 by omega, show w = 1 by omega]; exact gw_61f hg)
    | (refine hp _ ?_; rw [show K = 61 by omega, show w = 0 by omega]; exact gw_61b hg hv)
    | (refine hp _ ?_; rw [show K = 60 by omega, show w = 1 by omega]; exact gw_60f l2 l3)
    | (refine hp _ ?_; rw [show K = 60 by omega, show w = 0 by omega]; exact gw_60b m2 m3)
    | (refine hp _ ?_; rw [show v = 0 from lgc_0.mp hc3]; exact gw_0)
    | (refine hp _ ?_; rw [show v = 0 from lgc_0.mp (Decidable.not_not.mp hc3)]; exact gw_0)
