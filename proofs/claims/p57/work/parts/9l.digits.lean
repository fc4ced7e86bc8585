/-! texts: the string builder -/
/-- a number's digits -/
def decL (n : Nat) : List Int := if n < 10 then [48 + (n : Int)] else decL (n / 10) ++ [48 + ((n % 10 : Nat) : Int)]
termination_by n
theorem decL_lt {n : Nat} (h : n < 10) : decL n = [48 + (n : Int)] := by rw [decL, if_pos h]
theorem decL_ge {n : Nat} (h : 10 ≤ n) : decL n = decL (n / 10) ++ [48 + ((n % 10 : Nat) : Int)] := by rw [decL, if_neg (by omega)]
theorem decL_100 {n : Nat} (h : 100 ≤ n) : decL n = decL (n / 100) ++ [48 + ((n % 100 / 10 : Nat) : Int), 48 + ((n % 100 % 10 : Nat) : Int)] := by
  rw [decL_ge (by omega), decL_ge (n := n / 10) (by omega), show n / 10 / 10 = n / 100 by omega, show n / 10 % 10 = n % 100 / 10 by omega, show n % 100 % 10 = n % 10 by omega, List.append_assoc]
  rfl
theorem decL_99 {n : Nat} (h : 10 ≤ n) (h2 : n < 100) : decL n = [48 + ((n / 10 : Nat) : Int), 48 + ((n % 10 : Nat) : Int)] := by
  rw [decL_ge h, decL_lt (by omega)]
  rfl
theorem decL_size : ∀ (k n : Nat), n < 10 ^ (k + 1) → (k = 0 ∨ 10 ^ (k + 1) ≤ 10 * n) → (decL n).length = k + 1
  | 0, n, h, _ => by rw [decL_lt (by simpa using h)]; rfl
  | k + 1, n, h, h2 => by
    have e : 10 ^ (k + 1 + 1) = 10 * 10 ^ (k + 1) := by rw [Nat.pow_succ, Nat.mul_comm]
    have e2 : 10 ^ (k + 1) = 10 * 10 ^ k := by rw [Nat.pow_succ, Nat.mul_comm]
    have p : 0 < 10 ^ k := Nat.pow_pos (by decide)
    have h3 : 10 ^ (k + 1) ≤ n := by omega
    rw [decL_ge (by omega), List.length_append, decL_size k (n / 10) (by omega) ?_]
    · rfl
    · by_cases hk : k = 0
      · exact Or.inl hk
      · refine Or.inr ?_
        omega
theorem decL_pos (n : Nat) : 1 ≤ (decL n).length := by
  by_cases h : n < 10
  · rw [decL_lt h]; exact Nat.le_refl _
  · rw [decL_ge (by omega), List.length_append]; exact Nat.le_add_left _ _
theorem decL_le : ∀ (k n : Nat), n < 10 ^ (k + 1) → (decL n).length ≤ k + 1
  | 0, n, h => by rw [decL_lt (by simpa using h)]; exact Nat.le_refl _
  | k + 1, n, h => by
    have e : 10 ^ (k + 1 + 1) = 10 * 10 ^ (k + 1) := by rw [Nat.pow_succ, Nat.mul_comm]
    by_cases h2 : n < 10
    · rw [decL_lt h2]; exact Nat.le_add_left _ _
    · rw [decL_ge (by omega), List.length_append]
      have := decL_le k (n / 10) (by omega)
      show (decL (n / 10)).length + 1 ≤ _
      omega
def chL (l : List Int) : Prop := ∀ c ∈ l, 0 ≤ c ∧ c < 128
theorem chL.app {l k : List Int} (h : chL l) (h2 : chL k) : chL (l ++ k) := fun c hc => by
  rcases List.mem_append.mp hc with q | q
  · exact h c q
  · exact h2 c q
theorem chL.one {c : Int} (h : 0 ≤ c ∧ c < 128) : chL [c] := fun d hd => by rw [List.mem_singleton.mp hd]; exact h
theorem chL.nil : chL [] := fun c hc => by cases hc
theorem chL.dec (n : Nat) : chL (decL n) := by
  induction n using Nat.strongRecOn with
  | ind n ih =>
    by_cases h : n < 10
    · rw [decL_lt h]; exact chL.one (by omega)
    · rw [decL_ge (by omega)]
      exact (ih (n / 10) (by omega)).app (chL.one (by omega))
theorem chL.at {l : List Int} (h : chL l) {i : Nat} (hi : i < l.length) : 0 ≤ l.getD i 0 ∧ l.getD i 0 < 128 := by
  rw [List.getD_eq_getElem?_getD, List.getElem?_eq_getElem hi]
  exact h _ (List.getElem_mem hi)
theorem getD_app {l k : List Int} (i : Nat) : (l ++ k).getD i 0 = if i < l.length then l.getD i 0 else k.getD (i - l.length) 0 := by
  split
  · rename_i h
    rw [List.getD_eq_getElem?_getD, List.getElem?_append_left h, ← List.getD_eq_getElem?_getD]
  · rename_i h
    rw [List.getD_eq_getElem?_getD, List.getElem?_append_right (by omega), ← List.getD_eq_getElem?_getD]
/-- a row's places from p on hold a list, places ahead are as before -/
def gcI (I J : IM) (v e p : Nat) (l : List Int) : Prop := p + l.length = e ∧ (∀ i, i < l.length → J v (p + i) = l.getD i 0) ∧ (∀ i, i < p → J v i = I v i) ∧ ∀ a, a ≠ v → J a = I a
theorem gcI.start (I : IM) (v e : Nat) : gcI I I v e e [] := ⟨rfl, fun i hi => absurd hi (by simp), fun _ _ => rfl, fun _ _ => rfl⟩
theorem gcI.push {I J : IM} {v e p : Nat} {l : List Int} (h : gcI I J v e (p + 1) l) {c : Int} {j : Nat} (hj : j = p) : gcI I (st J v j c) v e p (c :: l) := by
  subst hj
  obtain ⟨a, b, d, f⟩ := h
  refine ⟨by rw [List.length_cons]; omega, fun i hi => ?_, fun i hi => ?_, fun a ha => by rw [st_row _ _ ha]; exact f a ha⟩
  · cases i with
    | zero => exact st_same _ _ _ _
    | succ i =>
      rw [st_ne _ _ (by omega), show j + (i + 1) = j + 1 + i by omega, b i (by rw [List.length_cons] at hi; omega)]
      rfl
  · rw [st_ne _ _ (by omega)]
    exact d i (by omega)
/-- the constants: texts and digits -/
def kC (B : HP) (I : IM) : Prop := hK B (BIG + 18) = (8, 100) ∧ hK B (BIG + 19) = (8, 100) ∧ ∀ i, i < 100 → I (BIG + 18) i = 48 + ((i / 10 : Nat) : Int) ∧ I (BIG + 19) i = 48 + ((i % 10 : Nat) : Int)
theorem kC.row {B : HP} {I J : IM} (h : kC B I) (hr : ∀ a, BIG ≤ a → J a = I a) : kC B J := ⟨h.1, h.2.1, fun i hi => by rw [hr _ (by omega), hr _ (by omega)]; exact h.2.2 i hi⟩
theorem tdN (u : Nat) : (-(u : Int)).tdiv 100 = -((u / 100 : Nat) : Int) := by
  rw [Int.neg_tdiv]
  show -((u : Int).tdiv ((100 : Nat) : Int)) = _
  rw [← Int.ofNat_tdiv]
/-- a string builder and its text -/
def oS (B : HP) (s v n : Nat) : Prop := hK B s = (20, 0) ∧ hR B s 0 = some v ∧ hK B v = (4, n) ∧ s ≠ v ∧ n ≤ 1000
def sbT (I : IM) (s v : Nat) (l : List Int) : Prop := I s 1 = 0 ∧ I s 3 = (l.length : Int) ∧ (∀ i, i < l.length → I v i = l.getD i 0) ∧ chL l
theorem sbT.row {I J : IM} {s v : Nat} {l : List Int} (h : sbT I s v l) (h1 : J s = I s) (h2 : J v = I v) : sbT J s v l := by
  unfold sbT
  rw [h1, h2]
  exact h
theorem sbT.push {I J : IM} {s v : Nat} {l k : List Int} (h : sbT I s v l) (hk : chL k) (h1 : J s 1 = 0) (h3 : J s 3 = ((l.length + k.length : Nat) : Int)) (hlo : ∀ i, i < l.length → J v i = I v i) (hhi : ∀ i, i < k.length → J v (l.length + i) = k.getD i 0) : sbT J s v (l ++ k) := by
  refine ⟨h1, by rw [h3, List.length_append], fun i hi => ?_, h.2.2.2.app hk⟩
  rw [List.length_append] at hi
  rw [getD_app]
  split
  · rename_i h5
    rw [hlo i h5]; exact h.2.2.1 i h5
  · rename_i h5
    have := hhi (i - l.length) (by omega)
    rw [show l.length + (i - l.length) = i by omega] at this
    exact this

theorem s_J_size {d : Nat} {B : HP} {I : IM} {Post : Out → HP → Prop} {n : Nat} (hn : n < 1000000000) (hp : Post (.inl (some (.int (i3 ((decL n).length : Int))))) (wI B I)) : Sp (d + 1) k_J6_stringSize_0f7a4 [.int (i3 ((n : Int)))] (wI B I) Post := by
  refine Sp_intro md_J6_stringSize_0f7a4 rfl rfl (fun G hG => ?_)
  have lp : ∀ (mz : Nat) (i : Nat) (t : Nat) (p : Int), 10 - i = mz → 1 ≤ i ∧ i ≤ 9 → t = 10 ^ i → p = -(t : Int) → i = 1 ∨ t ≤ 10 * n → G 16 [some (.int (i3 (-(n : Int)))), some (.int (i3 0)), some (.int (i3 p)), some (.int (i3 (i : Int)))] [] (wI B I) := by
    intro mz
    induction mz using Nat.strongRecOn with
    | ind mz ih =>
      intro i t p hme hi ht hp9 hlo
      have ht9 : t ≤ 1000000000 := by rw [ht]; exact Nat.pow_le_pow_right (by decide) hi.2
      have h9 : i = 9 → t = 1000000000 := fun e => by rw [ht, e]
      refine q_iload_n hG rfl rfl ?_
      refine q_bipush (v := 10) hG rfl rfl ?_
      refine q_icmp_ge hG rfl ⟨by omega, by omega⟩ ⟨by omega, by omega⟩ (fun hc19 => absurd hc19 (by omega)) (fun hc19 => ?_)
      refine q_iload_n hG rfl rfl ?_
      refine q_iload_n hG rfl rfl ?_
      refine q_icmp_le hG rfl ⟨by omega, by omega⟩ ⟨by omega, by omega⟩ (fun hc24 => ?_) (fun hc24 => ?_)
      · refine q_bipush (v := 10) hG rfl rfl ?_
        refine q_iload_n hG rfl rfl ?_
        refine q_imul hG rfl ?_
        refine q_istore_n hG rfl rfl ?_
        refine q_iinc (c := 1) hG rfl rfl rfl rfl ?_
        refine q_goto hG rfl ?_
        refine ih _ (by omega) (i + 1) (10 * t) _ rfl ⟨by omega, ?_⟩ (by rw [ht, Nat.pow_succ, Nat.mul_comm]) (by omega) (Or.inr (by omega))
        by_cases e : i = 9
        · have := h9 e; omega
        · omega
      · refine q_iload_n hG rfl rfl ?_
        refine q_iload_n hG rfl rfl ?_
        refine q_iadd hG rfl ?_
        refine q_iret0 hG rfl rfl ?_
        obtain ⟨k, rfl⟩ : ∃ k, i = k + 1 := ⟨i - 1, by omega⟩
        rw [decL_size k n (by rw [← ht]; omega) (by rw [← ht]; omega)] at hp
        refine Eq.mp ?_ hp
        show Post (.inl (some (.int (i3 (((k + 1 : Nat) : Int)))))) _ = Post (.inl (some (.int (i3 (((k + 1 : Nat) : Int) + 0))))) _
        rw [Int.add_zero]
  show G 0 [some (.int (i3 ((n : Int)))), none, none, none] [] (wI B I)
  refine q_iconst (v := 1) hG rfl rfl ?_
  refine q_istore_n hG rfl rfl ?_
  refine q_iload_n hG rfl rfl ?_
  refine q_if_lt hG rfl ⟨by omega, by omega⟩ (fun hc3 => absurd hc3 (by omega)) (fun hc3 => ?_)
  refine q_iconst (v := 0) hG rfl rfl ?_
  refine q_istore_n hG rfl rfl ?_
  refine q_iload_n hG rfl rfl ?_
  refine q_ineg hG rfl ?_
  refine q_istore_n hG rfl rfl ?_
  refine q_bipush (v := -10) hG rfl rfl ?_
  refine q_istore_n hG rfl rfl ?_
  refine q_iconst (v := 1) hG rfl rfl ?_
  refine q_istore_n hG rfl rfl ?_
  exact lp _ 1 10 (-10) rfl ⟨by omega, by omega⟩ rfl rfl (Or.inl rfl)
theorem s_J_chars {d : Nat} {B : HP} {I : IM} {Post : Out → HP → Prop} {n e v cap : Nat} (hn : n < 1000000000) (hv : hK B v = (4, cap)) (hvb : v < BIG) (he : (decL n).length ≤ e ∧ e ≤ cap ∧ cap ≤ 1000) (hC : kC B I) (hp : ∀ (J : IM) (p : Nat), gcI I J v e p (decL n) → Post (.inl (some (.int (i3 (p : Int))))) (wI B J)) : Sp (d + 1) k_J6_getChars_ba4f3 [.int (i3 ((n : Int))), .int (i3 ((e : Int))), .ref v] (wI B I) Post := by
  refine Sp_intro md_J6_getChars_ba4f3 rfl rfl (fun G hG => ?_)
  obtain ⟨hc1, hc2, hc3⟩ := hC
  have lp : ∀ (mz : Nat) (u : Nat) (xI : Int) (p : Nat) (pI : Int) (J : IM) (l : List Int) (v3 : Option Value) (v4 : Option Value), u = mz → u < 1000000000 → xI = -(u : Int) → pI = (p : Int) → decL n = decL u ++ l → gcI I J v e p l → (v4 = none ∨ ∃ z, v4 = some (.int z)) → G 22 [some (.int (i3 xI)), some (.int (i3 (e : Int))), some (.ref v), v3, v4, some (.int (i3 pI)), some (.int (i3 0))] [] (wI B J) := by
    intro mz
    induction mz using Nat.strongRecOn with
    | ind mz ih =>
      intro u xI p pI J l v3 v4 hme hu hx hpI hd hg h4
      have hlen : (decL u).length + l.length = (decL n).length := by rw [hd, List.length_append]
      have hl1 := decL_pos u
      have hgl := hg.1
      subst hx
      subst hpI
      have hJ18 : J (BIG + 18) = I (BIG + 18) := hg.2.2.2 _ (by omega)
      have hJ19 : J (BIG + 19) = I (BIG + 19) := hg.2.2.2 _ (by omega)
      refine q_iload_n hG rfl rfl ?_
      refine q_bipush (v := -100) hG rfl rfl ?_
      refine q_icmp_gt hG rfl ⟨by omega, by omega⟩ ⟨by omega, by omega⟩ (fun hc25 => ?_) (fun hc25 => ?_)
      · obtain ⟨p2, rfl⟩ : ∃ p2, p = p2 + 1 := ⟨p - 1, by omega⟩
        refine q_aload_n hG rfl rfl ?_
        refine q_iinc (c := -1) hG rfl rfl rfl (by rcases h4 with e | ⟨z, e⟩ <;> rw [e] <;> rfl) ?_
        refine q_iload hG rfl rfl ?_
        refine q_getstR hG rfl ?_
        refine q_iload_n hG rfl rfl ?_
        refine q_ineg hG rfl ?_
        refine q_baldv (v := 48 + ((u % 10 : Nat) : Int)) hG rfl (by assumption) (by first | exact Or.inl rfl | exact Or.inr rfl) ⟨by omega, by omega, by omega⟩ (by rw [hJ19, show (- -(u : Int)).toNat = u by omega]; exact (hc3 _ (by omega)).2) ?_
        refine q_bast hG rfl (by assumption) ⟨by omega, by omega, by omega⟩ ⟨by omega, by omega⟩ ?_
        refine q_iload_n hG rfl rfl ?_
        refine q_bipush (v := -9) hG rfl rfl ?_
        refine q_icmp_ge hG rfl ⟨by omega, by omega⟩ ⟨by omega, by omega⟩ (fun hc88 => ?_) (fun hc88 => ?_)
        · refine q_iload hG rfl rfl ?_
          refine q_if_eq hG rfl ⟨by omega, by omega⟩ (fun hc106 => ?_) (fun hc106 => absurd (by omega) hc106)
          refine q_iload hG rfl rfl ?_
          refine q_iret0 hG rfl rfl ?_
          rw [show (((p2 + 1 : Nat) : Int) + -1) = (p2 : Int) by omega]
          refine hp _ p2 ?_
          rw [hd, decL_lt (by omega)]
          have e9 : u % 10 = u := by omega
          rw [e9]
          exact hg.push (p := p2) (by omega)
        · have hl2 : 2 ≤ (decL u).length := by
            rw [decL_99 (by omega) (by omega)]
            exact Nat.le_refl _
          obtain ⟨p3, rfl⟩ : ∃ p3, p2 = p3 + 1 := ⟨p2 - 1, by omega⟩
          refine q_aload_n hG rfl rfl ?_
          refine q_iinc (c := -1) hG rfl rfl rfl (by rcases h4 with e | ⟨z, e⟩ <;> rw [e] <;> rfl) ?_
          refine q_iload hG rfl rfl ?_
          refine q_getstR hG rfl ?_
          refine q_iload_n hG rfl rfl ?_
          refine q_ineg hG rfl ?_
          refine q_baldv (v := 48 + ((u / 10 : Nat) : Int)) hG rfl (by assumption) (by first | exact Or.inl rfl | exact Or.inr rfl) ⟨by omega, by omega, by omega⟩ (by rw [st_row _ _ (show BIG + 18 ≠ v by omega), hJ18, show (- -(u : Int)).toNat = u by omega]; exact (hc3 _ (by omega)).1) ?_
          refine q_bast hG rfl (by assumption) ⟨by omega, by omega, by omega⟩ ⟨by omega, by omega⟩ ?_
          refine q_iload hG rfl rfl ?_
          refine q_if_eq hG rfl ⟨by omega, by omega⟩ (fun hc106 => ?_) (fun hc106 => absurd (by omega) hc106)
          refine q_iload hG rfl rfl ?_
          refine q_iret0 hG rfl rfl ?_
          rw [show (((p3 + 1 + 1 : Nat) : Int) + -1 + -1) = (p3 : Int) by omega]
          refine hp _ p3 ?_
          rw [hd, decL_99 (by omega) (by omega)]
          exact (hg.push (p := p3 + 1) (by omega)).push (p := p3) (by omega)
      · have hl3 : 3 ≤ (decL u).length := by
          rw [decL_100 (by omega), List.length_append]
          have := decL_pos (u / 100)
          show 3 ≤ _ + 2
          omega
        obtain ⟨p2, rfl⟩ : ∃ p2, p = p2 + 2 := ⟨p - 2, by omega⟩
        refine q_iload_n hG rfl rfl ?_
        refine q_bipush (v := 100) hG rfl rfl ?_
        refine q_idiv hG rfl ⟨by omega, by omega⟩ ⟨by omega, by omega⟩ ?_
        rw [tdN]
        refine q_istore_n hG rfl rfl ?_
        refine q_iload_n hG rfl rfl ?_
        refine q_bipush (v := 100) hG rfl rfl ?_
        refine q_imul hG rfl ?_
        refine q_iload_n hG rfl rfl ?_
        refine q_isub hG rfl ?_
        refine q_istore hG rfl rfl ?_
        refine q_iload_n hG rfl rfl ?_
        refine q_istore_n hG rfl rfl ?_
        refine q_aload_n hG rfl rfl ?_
        refine q_iinc (c := -1) hG rfl rfl rfl rfl ?_
        refine q_iload hG rfl rfl ?_
        refine q_getstR hG rfl ?_
        refine q_iload hG rfl rfl ?_
        refine q_baldv (v := 48 + ((u % 100 % 10 : Nat) : Int)) hG rfl (by assumption) (by first | exact Or.inl rfl | exact Or.inr rfl) ⟨by omega, by omega, by omega⟩ (by rw [hJ19, show (-((u / 100 : Nat) : Int) * 100 - -(u : Int)).toNat = u % 100 by omega]; exact (hc3 _ (by omega)).2) ?_
        refine q_bast hG rfl (by assumption) ⟨by omega, by omega, by omega⟩ ⟨by omega, by omega⟩ ?_
        refine q_aload_n hG rfl rfl ?_
        refine q_iinc (c := -1) hG rfl rfl rfl rfl ?_
        refine q_iload hG rfl rfl ?_
        refine q_getstR hG rfl ?_
        refine q_iload hG rfl rfl ?_
        refine q_baldv (v := 48 + ((u % 100 / 10 : Nat) : Int)) hG rfl (by assumption) (by first | exact Or.inl rfl | exact Or.inr rfl) ⟨by omega, by omega, by omega⟩ (by rw [st_row _ _ (show BIG + 18 ≠ v by omega), hJ18, show (-((u / 100 : Nat) : Int) * 100 - -(u : Int)).toNat = u % 100 by omega]; exact (hc3 _ (by omega)).1) ?_
        refine q_bast hG rfl (by assumption) ⟨by omega, by omega, by omega⟩ ⟨by omega, by omega⟩ ?_
        refine q_goto hG rfl ?_
        refine ih _ (by omega) (u / 100) _ p2 _ _ ((48 + ((u % 100 / 10 : Nat) : Int)) :: (48 + ((u % 100 % 10 : Nat) : Int)) :: l) _ _ rfl (by omega) rfl (by omega) ?_ ((hg.push (p := p2 + 1) (by omega)).push (p := p2) (by omega)) (Or.inr ⟨_, rfl⟩)
        rw [hd, decL_100 (by omega), List.append_assoc]
        rfl
  show G 0 [some (.int (i3 ((n : Int)))), some (.int (i3 ((e : Int)))), some (.ref v), none, none, none, none] [] (wI B I)
  refine q_iload_n hG rfl rfl ?_
  refine q_istore hG rfl rfl ?_
  refine q_iload_n hG rfl rfl ?_
  refine q_if_ge hG rfl ⟨by omega, by omega⟩ (fun hc4 => ?_) (fun hc4 => absurd (by omega) hc4)
  refine q_iconst (v := 0) hG rfl rfl ?_
  refine q_istore hG rfl rfl ?_
  refine q_iload hG rfl rfl ?_
  refine q_if_ne hG rfl ⟨by omega, by omega⟩ (fun q => absurd q (by decide)) (fun _ => ?_)
  refine q_iload_n hG rfl rfl ?_
  refine q_ineg hG rfl ?_
  refine q_istore_n hG rfl rfl ?_
  exact lp _ n _ e _ I [] none none rfl hn rfl rfl (by rw [List.append_nil]) (gcI.start I v e) (Or.inl rfl)
