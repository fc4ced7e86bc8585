/-! the law's start -/
theorem run_hw : ∀ (l : List OP) {B C : HP}, hw B = hw C → hw (run l B) = hw (run l C)
  | [], _, _, h => h
  | (0, k, n, w) :: l, B, C, h => run_hw l (B := mk B (k, n) w) (C := mk C (k, n) w) (congrArg (· + w) h)
  | (1, a, i, v) :: l, B, C, h => run_hw l (B := sR B a i (some v)) (C := sR C a i (some v)) h
  | (t + 2, a, c, n) :: l, B, C, h => run_hw l (B := mkG B 6 1 c n) (C := mkG C 6 1 c n) (congrArg (· + c + c * n) h)
/-- the first numbers -/
def iA (L : Nat) (xs : Nat → Int32) : IM := fun a i => (hI (A0 L xs) a i).toInt
theorem A0_w (L : Nat) (xs : Nat → Int32) : A0 L xs = wI (A0 L xs) (iA L xs) := by
  have e : (fun a i => i3 (iA L xs a i)) = hI (A0 L xs) := funext fun a => funext fun i => Int32.ofInt_toInt _
  show _ = ((A0 L xs).1, (fun a i => i3 (iA L xs a i)), (A0 L xs).2.2)
  rw [e]
  rfl
theorem getD_m (l : List Int32) (i : Nat) : (l.map Int32.toInt).getD i 0 = (l.getD i 0).toInt := by
  rw [List.getD_eq_getElem?_getD, List.getD_eq_getElem?_getD, List.getElem?_map]
  cases l[i]? with
  | none => rfl
  | some v => rfl
theorem iA_c (L : Nat) (xs : Nat → Int32) (k i : Nat) : iA L xs (BIG + k) i = (ii0 xs k i).toInt := by
  unfold iA
  rw [A0_I]
theorem kS0 {L : Nat} {xs : Nat → Int32} {B : HP} {J : IM} (hk : ∀ a, BIG ≤ a → hK B a = hK (A0 L xs) a) (hh : ∀ a i, BIG ≤ a → hR B a i = hR (A0 L xs) a i) (hr : ∀ a, BIG ≤ a → J a = iA L xs a) (k : Nat) (h9 : k < 9) {t : List Int} (e : (stB k).map Int32.toInt = t) (hc : chL t) (hl : t.length < 100) : kS B J k t := by
  have el : t.length = (stB k).length := by rw [← e, List.length_map]
  refine ⟨?_, (hh _ _ (by omega)).trans (A0_R L xs k h9), ?_, ?_, fun i hi => ?_, hc, hl⟩
  · rw [hk _ (by omega), A0_K]
    unfold kk0
    rw [if_pos h9]
  · rw [hr _ (by omega), iA_c]
    unfold ii0
    rw [if_pos h9]
    rfl
  · rw [hk _ (by omega), A0_K]
    unfold kk0
    rw [if_neg (by omega), if_pos (by omega), show 9 + k - 9 = k by omega, el]
  · rw [hr _ (by omega), iA_c]
    unfold ii0
    rw [if_neg (by omega), if_pos (by omega), show 9 + k - 9 = k by omega, ← e, getD_m]
theorem INV0 {L : Nat} {xs : Nat → Int32} {B : HP} {J : IM} (hB : B = run opsL (A0 L xs)) (j0 : ∀ a, a < 186 → ∀ k, ¬ (a = 0 ∧ k = 10) → ¬ (a = 178 ∧ k = 19) → J a k = 0) (j1 : J 0 10 = -1) (j2 : J 178 19 = -1) (j3 : ∀ a, 186 ≤ a → J a = iA L xs a) : INV 0 L B J := by
  have hbg : BIG = 1000000000 := rfl
  obtain ⟨z1, z2, z3, z4⟩ := Z_out
  obtain ⟨y1, y2⟩ := Z_tx
  obtain ⟨e1, e2⟩ := run_eq opsL (B := Z0) (C := A0 L xs) rfl (fun b hb => absurd hb (Nat.not_lt_zero b))
  rw [z3] at e1 e2
  have cg : cgB (run opsL Z0) B := fun b hb => by
    rw [hB]
    obtain ⟨a1, a2⟩ := e2 b hb
    exact ⟨a1.symm, fun i _ => by rw [a2]⟩
  have hX := Z_LX.cg cg
  have eK : ∀ b, b < 186 → hK B b = hK (run opsL Z0) b := fun b hb => (cg b hb).1
  have hi := fun a (ha : BIG ≤ a) => run_hi opsL (B := A0 L xs) (c := 186) (b := a) Z_lt (by omega) (by omega)
  have gk : ∀ a, BIG ≤ a → hK B a = hK (A0 L xs) a := fun a ha => by rw [hB]; exact (hi a ha).1
  have gh : ∀ a i, BIG ≤ a → hR B a i = hR (A0 L xs) a i := fun a i ha => by rw [hB, (hi a ha).2]
  have gr : ∀ a, BIG ≤ a → J a = iA L xs a := fun a ha => j3 a (by omega)
  have hn1 : hn B = 186 := by rw [hB]; exact e1.symm
  have hw1 : hw B ≤ 8000 := by rw [hB, run_hw opsL (B := A0 L xs) (C := Z0) rfl]; exact z4
  have hJ1 : hJ B 180 = fun _ => 0 := by
    rw [hB]
    exact (run_J opsL (A0 L xs)).1 180 (Nat.zero_le _) (by omega)
  have jz : ∀ a, a < 186 → a ≠ 0 → a ≠ 178 → ∀ k, J a k = 0 := fun a h1 h2 h3 k => j0 a h1 k (by omega) (by omega)
  have kc : ∀ i : Nat, i < 100 → J (BIG + 18) i = 48 + ((i / 10 : Nat) : Int) ∧ J (BIG + 19) i = 48 + ((i % 10 : Nat) : Int) := fun i hi => by
    rw [gr _ (by omega), gr _ (by omega), iA_c, iA_c]
    refine ⟨(i32_n (n := 48 + i / 10) (by omega)).trans (by omega), (i32_n (n := 48 + i % 10) (by omega)).trans (by omega)⟩
  have hC : CSt J (fun _ => 0) 0 (fun _ _ => 0) 0 (fun _ => 0) (-1) 0 0 0 := by
    refine ⟨⟨jz 1 (by decide) (by decide) (by decide) 0, jz 8 (by decide) (by decide) (by decide) 0, jz 8 (by decide) (by decide) (by decide) 1, jz 1 (by decide) (by decide) (by decide) 4, jz 1 (by decide) (by decide) (by decide) 5, fun k _ => ⟨jz 3 (by decide) (by decide) (by decide) k, jz 4 (by decide) (by decide) (by decide) k, jz 6 (by decide) (by decide) (by decide) k, jz 7 (by decide) (by decide) (by decide) k⟩, fun k hk => absurd hk (by show ¬ (k : Int) < 0; omega), fun k _ => by rw [jz 10 (by decide) (by decide) (by decide) k]; decide⟩, ⟨0, jz 14 (by decide) (by decide) (by decide) 0, by decide, jz 14 (by decide) (by decide) (by decide) 1, by decide, fun j hj => absurd hj (by omega)⟩, ⟨j0 0 (by decide) 3 (by decide) (by decide), Or.inl rfl⟩, fun h => absurd h (by decide), j1, j0 0 (by decide) 11 (by decide) (by decide), j0 0 (by decide) 12 (by decide) (by decide), j0 0 (by decide) 13 (by decide) (by decide), fun k _ => ⟨jz 152 (by decide) (by decide) (by decide) k, jz 157 (by decide) (by decide) (by decide) k⟩⟩
  have hM : MSt J 178 (fun _ => 0) 0 (fun _ _ => 0) 0 (fun _ => 0) (-1) 0 0 0 := ⟨fun j _ => jz 179 (by decide) (by decide) (by decide) _, ⟨j0 178 (by decide) 2 (by decide) (by decide), by decide, fun j hj => absurd hj (by omega)⟩, ⟨j0 178 (by decide) 3 (by decide) (by decide), Or.inl rfl⟩, fun h => absurd h (by decide), j2, j0 178 (by decide) 5 (by decide) (by decide), j0 178 (by decide) 6 (by decide) (by decide), j0 178 (by decide) 7 (by decide) (by decide)⟩
  have h161 : hK B 161 = (20, 0) := (eK 161 (by decide)).trans (by decide +kernel)
  refine ⟨fun _ => 0, 0, fun _ _ => 0, 0, fun _ => 0, -1, 0, 0, 0, [], [], ⟨hX, Z_oM.cg cg, (eK 184 (by decide)).trans z1, (eK 185 (by decide)).trans z2, (gk _ (by omega)).trans (A0_K L xs 20), by omega, by omega, fun k _ => ?_⟩, ⟨⟨(gk _ (by omega)).trans (A0_K L xs 18), (gk _ (by omega)).trans (A0_K L xs 19), kc⟩, kS0 gk gh gr 0 (by decide) (by decide +kernel) (by unfold chL; decide) (by decide), ⟨kS0 gk gh gr 1 (by decide) (by decide +kernel) (by unfold chL fDrop; decide) (by decide), kS0 gk gh gr 2 (by decide) (by decide +kernel) (by unfold chL fDoor; decide) (by decide), kS0 gk gh gr 3 (by decide) (by decide +kernel) (by unfold chL fFrame; decide) (by decide), kS0 gk gh gr 4 (by decide) (by decide +kernel) (by unfold chL fNarrow; decide) (by decide), kS0 gk gh gr 5 (by decide) (by decide +kernel) (by unfold chL fPass; decide) (by decide), kS0 gk gh gr 6 (by decide) (by decide +kernel) (by unfold chL fSettle; decide) (by decide), kS0 gk gh gr 7 (by decide) (by decide +kernel) (by unfold chL fReset; decide) (by decide), kS0 gk gh gr 8 (by decide) (by decide +kernel) (by unfold chL fBind; decide) (by decide)⟩, fun k => ?_⟩, ⟨hC, ⟨jz 158 (by decide) (by decide) (by decide) 1, jz 158 (by decide) (by decide) (by decide) 3, fun i hi => absurd hi (by simp), chL.nil⟩, 162, 16, ⟨h161, (congrFun ((by rw [hB]; exact (e2 161 (by decide)).2.symm) : hR B 161 = hR (run opsL Z0) 161) 0).trans y1, (eK 162 (by decide)).trans y2, by decide, by decide⟩, ⟨jz 161 (by decide) (by decide) (by decide) 1, jz 161 (by decide) (by decide) (by decide) 3, fun i hi => absurd hi (by simp), chL.nil⟩, Nat.zero_le _, Or.inl rfl, Or.inl rfl⟩, ⟨hM, ⟨j0 178 (by decide) 14 (by decide) (by decide), fun i hi => absurd hi (by simp), chL.nil⟩, ⟨j0 178 (by decide) 16 (by decide) (by decide), fun i hi => absurd hi (by simp), chL.nil, by simp⟩⟩, ⟨?_, fun j hj => absurd hj (by omega), fun h => absurd h (by decide), ⟨⟨by decide, by decide⟩, ⟨by decide, by decide⟩⟩, by simp, by simp⟩⟩
  · have e : domJ (hJ B) 178 0 k = 0 := congrFun hJ1 _
    rw [e]
    exact fun k _ => bt_zero k
  · rw [gr _ (by omega)]
    unfold iA
    have a1 := Int32.le_toInt (hI (A0 L xs) (BIG + 20) k)
    have a2 := Int32.toInt_lt (hI (A0 L xs) (BIG + 20) k)
    exact ⟨by omega, by omega⟩
  · exact ⟨by decide, by decide, by decide, by decide, by decide, fun k _ => ⟨⟨Int.le_refl 0, Int.le_refl 0, Int.le_refl 0, Int.le_refl 0, by show (0 : Int) ≤ 40; decide⟩, fun _ => rfl⟩, fun k hk => absurd hk (by show ¬ (k : Int) < 0; omega)⟩
theorem zM_eq (I : IM) (a k : Nat) : zM I a a k = 0 := by
  show (if a = a then (0 : Int) else I a k) = 0
  exact if_pos rfl
theorem run_mk (k n w : Nat) (l : List OP) (B : HP) : run ((0, k, n, w) :: l) B = run l (mk B (k, n) w) := rfl
theorem run_nil (B : HP) : run [] B = B := rfl
set_option maxRecDepth 100000 in
theorem law_at {d : Nat} {Post : Out → HP → Prop} {G : Nat → LV → List Value → HP → Prop} (hG : Cl (Sp (d + 21)) md_L_law Post G) {L : Nat} (hL : L ≤ 2560) (xs : Nat → Int32) (hp : ∀ (N : Nat) (B : HP) (I : IM), INV N L B I → 5 * N ≤ L → Post (.inl (some (.int (i3 1)))) (wI B I)) : G 0 [some (.ref (BIG + 20)), none, none, none, none, none, none, none, none] [] (A0 L xs) := by
  rw [A0_w L xs]
  refine q_new hG rfl ?_
  have c1 : cnt (p8_9 0 1) = 177 := by decide +kernel
  have c2 : cnt (oX9 178 179) = 5 := by decide +kernel
  have e0 : hn (A0 L xs) = 0 := rfl
  rw [e0]
  rw [show ((10 + 8, 0) : Nat × Nat) = (18, 0) from rfl]
  have e1 : hn (mk (A0 L xs) (18, 0) 14) = 1 := rfl
  have k1 : hK (mk (A0 L xs) (18, 0) 14) 0 = (18, 0) := mkK_eq (B := A0 L xs)
  generalize hB1 : mk (A0 L xs) (18, 0) 14 = B1 at e1 k1 ⊢
  refine q_dup hG rfl rfl ?_
  refine q_callI7 hG rfl rfl rfl (s_I_X8 (d := d + 17) k1 (by omega) (fun J1 g1 => ?_))
  rw [e1] at g1 ⊢
  have e2 : hn (run (p8_9 0 1) B1) = 178 := by rw [run_n, e1, c1]
  generalize hB2 : run (p8_9 0 1) B1 = B2 at e2 ⊢
  refine q_astore_n hG rfl rfl ?_
  refine q_new hG rfl ?_
  rw [e2]
  rw [show ((10 + 9, 0) : Nat × Nat) = (19, 0) from rfl]
  have e3 : hn (mk B2 (19, 0) 22) = 179 := by show hn B2 + 1 = 179; omega
  have k3 : hK (mk B2 (19, 0) 22) 178 = (19, 0) := by rw [← e2]; exact mkK_eq (B := B2)
  generalize hB3 : mk B2 (19, 0) 22 = B3 at e3 k3 ⊢
  refine q_dup hG rfl rfl ?_
  refine q_callI7 hG rfl rfl rfl (s_I_X9 (d := d + 20) k3 (by omega) (fun J2 K2 g2 g3 => ?_))
  rw [e3] at g2 g3 ⊢
  have e4 : hn (run (oX9 178 179) B3) = 184 := by rw [run_n, e3, c2]
  generalize hB4 : run (oX9 178 179) B3 = B4 at e4 ⊢
  refine q_astore_n hG rfl rfl ?_
  refine q_iconst (v := 1) hG rfl rfl ?_
  refine q_newarr hG rfl ⟨by decide, by decide⟩ ?_
  rw [e4, show (1 : Int).toNat = 1 from rfl]
  have e5 : hn (mk B4 (2, 1) 1) = 185 := by show hn B4 + 1 = 185; omega
  generalize hB5 : mk B4 (2, 1) 1 = B5 at e5 ⊢
  refine q_astore_n hG rfl rfl ?_
  refine q_iconst (v := 1) hG rfl rfl ?_
  refine q_newarr hG rfl ⟨by decide, by decide⟩ ?_
  rw [e5, show (1 : Int).toNat = 1 from rfl]
  generalize hB6 : mk B5 (5, 1) 1 = B6
  refine q_astore hG rfl rfl ?_
  refine q_iconst (v := 0) hG rfl rfl ?_
  refine q_istore hG rfl rfl ?_
  have hB : B6 = run opsL (A0 L xs) := by
    subst hB6 hB5 hB4 hB3 hB2 hB1
    unfold opsL
    rw [run_app, run_app, run_mk, run_mk, run_mk, run_mk, run_nil]
  obtain ⟨p1, p2⟩ := g1
  obtain ⟨p3, p4⟩ := g2
  obtain ⟨p5, p6⟩ := g3
  refine law_loop hG hL hp _ 0 _ _ 0 none none none rfl (INV0 (xs := xs) hB (fun a ha k h1 h2 => ?_) ?_ ?_ (fun a ha => ?_)) rfl (by omega)
  · by_cases a5 : a = 185
    · subst a5; exact zM_eq _ _ _
    · rw [zM_ne a5]
      by_cases a4 : a = 184
      · subst a4; exact zM_eq _ _ _
      · rw [zM_ne a4]
        by_cases a3 : a = 183
        · subst a3; exact congrFun (p6 183 (by omega) (by omega)) k
        · rw [p5 a (by omega)]
          by_cases a2 : a = 178
          · subst a2
            rw [st_ne _ _ (by omega), p3 178 (by omega)]
            exact zM_eq _ _ _
          · rw [st_row _ _ a2]
            by_cases a1 : 179 ≤ a
            · exact congrFun (p4 a a1 (by omega)) k
            · rw [p3 a (by omega), zM_ne a2]
              by_cases a0 : a = 0
              · subst a0
                rw [st_ne _ _ (by omega), p1 0 (by omega)]
                exact zM_eq _ _ _
              · rw [st_row _ _ a0]
                exact congrFun (p2 a (by omega) (by omega)) k
  · rw [zM_ne (by decide), zM_ne (by decide), p5 0 (by omega), st_row _ _ (by decide), p3 0 (by omega), zM_ne (by decide), st_same]
  · rw [zM_ne (by decide), zM_ne (by decide), p5 178 (by omega), st_same]
  · rw [zM_ne (by omega), zM_ne (by omega), p5 a (by omega)]
    funext k
    rw [st_row _ _ (by omega), p3 a (by omega), zM_ne (by omega), st_row _ _ (by omega), p1 a (by omega), zM_ne (by omega)]
