/-! the law's start -/
/-- all that the law makes ahead of its texts -/
def opsL : List OP := (0, 18, 0, 14) :: p8_9 0 1
theorem Z_LX : LX (run opsL Z0) := by
  unfold LX
  repeat' (first | (refine And.intro ?_ ?_))
  all_goals (first | decide +kernel | (unfold oD oB oC; decide +kernel) | skip)
  intro i hi
  rcases (by omega : i = 0 ∨ i = 1 ∨ i = 2 ∨ i = 3 ∨ i = 4 ∨ i = 5 ∨ i = 6 ∨ i = 7 ∨ i = 8) with e | e | e | e | e | e | e | e | e <;> subst e <;> unfold oD oB oC <;> decide +kernel
theorem Z_out : hn (run opsL Z0) = 178 ∧ hw (run opsL Z0) ≤ 8000 := by decide +kernel
theorem Z_lt : ltA 178 opsL = true := by decide +kernel
theorem run_hw : ∀ (l : List OP) {B C : HP}, hw B = hw C → hw (run l B) = hw (run l C)
  | [], _, _, h => h
  | (0, k, n, w) :: l, B, C, h => run_hw l (B := mk B (k, n) w) (C := mk C (k, n) w) (congrArg (· + w) h)
  | (1, a, i, v) :: l, B, C, h => run_hw l (B := sR B a i (some v)) (C := sR C a i (some v)) h
  | (t + 2, a, c, n) :: l, B, C, h => run_hw l (B := mkG B 6 1 c n) (C := mkG C 6 1 c n) (congrArg (· + c + c * n) h)
/-- the first numbers -/
def iA (L : Nat) (xs : Nat → Int32) : IM := fun a i => (hI (A0 L xs) a i).toInt
theorem A0_w (L : Nat) (xs : Nat → Int32) : A0 L xs = wI (A0 L xs) (iA L xs) := by
  have e : (fun a i => i3 (iA L xs a i)) = hI (A0 L xs) := funext fun a => funext fun i => Int32.ofInt_toInt _
  show _ = ((A0 L xs).1, (fun a i => i3 (iA L xs a i)), (A0 L xs).2.2)
  rw [e]
  rfl
theorem getD_m (l : List Int32) (i : Nat) : (l.map Int32.toInt).getD i 0 = (l.getD i 0).toInt := by
  rw [List.getD_eq_getElem?_getD, List.getD_eq_getElem?_getD, List.getElem?_map]
  cases l[i]? with
  | none => rfl
  | some v => rfl
theorem iA_c (L : Nat) (xs : Nat → Int32) (k i : Nat) : iA L xs (BIG + k) i = (ii0 xs k i).toInt := by
  unfold iA
  rw [A0_I]
theorem kS0 {L : Nat} {xs : Nat → Int32} {B : HP} {J : IM} (hk : ∀ a, BIG ≤ a → hK B a = hK (A0 L xs) a) (hh : ∀ a i, BIG ≤ a → hR B a i = hR (A0 L xs) a i) (hr : ∀ a, BIG ≤ a → J a = iA L xs a) (k : Nat) (h9 : k < 9) {t : List Int} (e : (stB k).map Int32.toInt = t) (hc : chL t) (hl : t.length < 100) : kS B J k t := by
  have el : t.length = (stB k).length := by rw [← e, List.length_map]
  refine ⟨?_, (hh _ _ (by omega)).trans (A0_R L xs k h9), ?_, ?_, fun i hi => ?_, hc, hl⟩
  · rw [hk _ (by omega), A0_K]
    unfold kk0
    rw [if_pos h9]
  · rw [hr _ (by omega), iA_c]
    unfold ii0
    rw [if_pos h9]
    rfl
  · rw [hk _ (by omega), A0_K]
    unfold kk0
    rw [if_neg (by omega), if_pos (by omega), show 9 + k - 9 = k by omega, el]
  · rw [hr _ (by omega), iA_c]
    unfold ii0
    rw [if_neg (by omega), if_pos (by omega), show 9 + k - 9 = k by omega, ← e, getD_m]
theorem zM_ne {I : IM} {a b : Nat} (h : b ≠ a) : zM I a b = I b := funext (fun j => if_neg h)
theorem TI0 {L : Nat} {xs : Nat → Int32} {B : HP} {J : IM} (hB : B = run opsL (A0 L xs)) (j0 : ∀ a, a < 178 → ∀ k, ¬ (a = 0 ∧ k = 10) → J a k = 0) (j1 : J 0 10 = -1) (j3 : ∀ a, 178 ≤ a → J a = iA L xs a) : TI 200 L 0 (fun _ => 0) B J := by
  have hbg : BIG = 1000000000 := rfl
  obtain ⟨z3, z4⟩ := Z_out
  obtain ⟨e1, e2⟩ := run_eq opsL (B := Z0) (C := A0 L xs) rfl (fun b hb => absurd hb (Nat.not_lt_zero b))
  rw [z3] at e1 e2
  have cg : cgB (run opsL Z0) B := fun b hb => by
    rw [hB]
    obtain ⟨a1, a2⟩ := e2 b hb
    exact ⟨a1.symm, fun i _ => by rw [a2]⟩
  have hX := Z_LX.cg cg
  have hi := fun a (ha : BIG ≤ a) => run_hi opsL (B := A0 L xs) (c := 178) (b := a) Z_lt (by omega) (by omega)
  have gk : ∀ a, BIG ≤ a → hK B a = hK (A0 L xs) a := fun a ha => by rw [hB]; exact (hi a ha).1
  have gh : ∀ a i, BIG ≤ a → hR B a i = hR (A0 L xs) a i := fun a i ha => by rw [hB, (hi a ha).2]
  have gr : ∀ a, BIG ≤ a → J a = iA L xs a := fun a ha => j3 a (by omega)
  have hn1 : hn B = 178 := by rw [hB]; exact e1.symm
  have hw1 : hw B ≤ 8000 := by rw [hB, run_hw opsL (B := A0 L xs) (C := Z0) rfl]; exact z4
  have jz : ∀ a, a < 178 → a ≠ 0 → ∀ k, J a k = 0 := fun a h1 h2 k => j0 a h1 k (by omega)
  have kc : ∀ i : Nat, i < 100 → J (BIG + 18) i = 48 + ((i / 10 : Nat) : Int) ∧ J (BIG + 19) i = 48 + ((i % 10 : Nat) : Int) := fun i hi => by
    rw [gr _ (by omega), gr _ (by omega), iA_c, iA_c]
    refine ⟨(i32_n (n := 48 + i / 10) (by omega)).trans (by omega), (i32_n (n := 48 + i % 10) (by omega)).trans (by omega)⟩
  have hC : CSt J (fun _ => 0) 0 (fun _ _ => 0) 0 (fun _ => 0) (-1) 0 0 0 := by
    refine ⟨⟨jz 1 (by decide) (by decide) 0, jz 8 (by decide) (by decide) 0, jz 8 (by decide) (by decide) 1, jz 1 (by decide) (by decide) 4, jz 1 (by decide) (by decide) 5, fun k _ => ⟨jz 3 (by decide) (by decide) k, jz 4 (by decide) (by decide) k, jz 6 (by decide) (by decide) k, jz 7 (by decide) (by decide) k⟩, fun k hk => absurd hk (by show ¬ (k : Int) < 0; omega), fun k _ => by rw [jz 10 (by decide) (by decide) k]; decide⟩, ⟨0, jz 14 (by decide) (by decide) 0, by decide, jz 14 (by decide) (by decide) 1, by decide, fun j hj => absurd hj (by omega)⟩, ⟨j0 0 (by decide) 3 (by decide), Or.inl rfl⟩, fun h => absurd h (by decide), j1, j0 0 (by decide) 11 (by decide), j0 0 (by decide) 12 (by decide), j0 0 (by decide) 13 (by decide), fun k _ => ⟨jz 152 (by decide) (by decide) k, jz 157 (by decide) (by decide) k⟩⟩
  refine ⟨hX, (gk _ (by omega)).trans (A0_K L xs 20), ⟨by omega, by omega, by omega⟩, by omega, ⟨⟨(gk _ (by omega)).trans (A0_K L xs 18), (gk _ (by omega)).trans (A0_K L xs 19), kc⟩, kS0 gk gh gr 0 (by decide) (by decide +kernel) (by unfold chL; decide) (by decide), kS0 gk gh gr 1 (by decide) (by decide +kernel) (by unfold chL; decide) (by decide), kS0 gk gh gr 2 (by decide) (by decide +kernel) (by unfold chL; decide) (by decide), kS0 gk gh gr 3 (by decide) (by decide +kernel) (by unfold chL; decide) (by decide), kS0 gk gh gr 4 (by decide) (by decide +kernel) (by unfold chL; decide) (by decide), kS0 gk gh gr 5 (by decide) (by decide +kernel) (by unfold chL; decide) (by decide), kS0 gk gh gr 6 (by decide) (by decide +kernel) (by unfold chL; decide) (by decide), kS0 gk gh gr 7 (by decide) (by decide +kernel) (by unfold chL; decide) (by decide)⟩, ⟨_, _, _, _, _, _, _, _, hC⟩, ⟨[], ⟨jz 158 (by decide) (by decide) 1, jz 158 (by decide) (by decide) 3, fun i hi => absurd hi (by simp), chL.nil⟩, by simp⟩, ?_, fun k hk => absurd hk (by show ¬ (k : Int) + 1 < 0; omega), by show ((0 : Nat) : Int) ≤ 0; omega⟩
  exact ⟨by decide, by decide, by decide, by decide, by decide, fun k _ => ⟨⟨Int.le_refl 0, Int.le_refl 0, Int.le_refl 0, Int.le_refl 0, by show (0 : Int) ≤ 40; decide⟩, fun _ => rfl⟩, fun k hk => absurd hk (by show ¬ (k : Int) < 0; omega)⟩
theorem zM_eq (I : IM) (a k : Nat) : zM I a a k = 0 := by
  show (if a = a then (0 : Int) else I a k) = 0
  exact if_pos rfl
theorem run_mk (k n w : Nat) (l : List OP) (B : HP) : run ((0, k, n, w) :: l) B = run l (mk B (k, n) w) := rfl
theorem run_nil (B : HP) : run [] B = B := rfl
set_option maxRecDepth 100000 in
theorem law_at {d : Nat} {Post : Out → HP → Prop} {G : Nat → LV → List Value → HP → Prop} (hG : Cl (Sp (d + 19)) md_L_law Post G) {L : Nat} (hL : L ≤ 260) (xs : Nat → Int32) (hp : ∀ (R : RW) (B : HP) (I : IM), TI 2500 L 4 R B I → Post (.inl (some (.int (i3 1)))) (wI B I)) : G 0 [some (.ref (BIG + 20)), none, none, none, none, none, none, none, none, none, none, none, none, none, none, none, none, none] [] (A0 L xs) := by
  rw [A0_w L xs]
  refine q_new hG rfl ?_
  have c1 : cnt (p8_9 0 1) = 177 := by decide +kernel
  have e0 : hn (A0 L xs) = 0 := rfl
  rw [e0]
  rw [show ((10 + 8, 0) : Nat × Nat) = (18, 0) from rfl]
  have e1 : hn (mk (A0 L xs) (18, 0) 14) = 1 := rfl
  have k1 : hK (mk (A0 L xs) (18, 0) 14) 0 = (18, 0) := mkK_eq (B := A0 L xs)
  generalize hB1 : mk (A0 L xs) (18, 0) 14 = B1 at e1 k1 ⊢
  refine q_dup hG rfl rfl ?_
  refine q_callI7 hG rfl rfl rfl (s_I_X8 (d := d + 15) k1 (by omega) (fun J1 g1 => ?_))
  rw [e1] at g1 ⊢
  refine q_astore_n hG rfl rfl ?_
  refine q_aload_n hG rfl rfl ?_
  refine q_aload_n hG rfl rfl ?_
  obtain ⟨p1, p2⟩ := g1
  have t0 : TI 200 L 0 (fun _ => 0) (run (p8_9 0 1) B1) (st J1 0 10 (-1)) := by
    refine TI0 (xs := xs) (by subst hB1; unfold opsL; rw [run_mk]) (fun a ha k h1 => ?_) (st_same _ _ _ _) (fun a ha => ?_)
    · by_cases a0 : a = 0
      · subst a0
        rw [st_ne _ _ (by omega), p1 0 (by omega)]
        exact zM_eq _ _ _
      · rw [st_row _ _ a0]
        exact congrFun (p2 a (by omega) (by omega)) k
    · rw [st_row _ _ (by omega), p1 a (by omega), zM_ne (by omega)]
  refine q_callS0 hG rfl rfl rfl (s_L_build t0 (by omega) hL rfl (fun R2 C J t2 => ?_))
  refine q_iconst (v := 0) hG rfl rfl ?_
  refine q_istore_n hG rfl rfl ?_
  exact lw_turns hG hL hp _ 0 R2 C J none none none none none none none none none none none none none none none rfl (by omega) (t2.up ⟨by omega, by omega⟩)
