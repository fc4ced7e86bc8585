/-! parts of the class: bounds and constraints -/
def oB (B : HP) (b : Nat) : Prop := hK B b = (10, 0) ∧ hR B b 0 = some (b + 1) ∧ hR B b 1 = some (b + 2) ∧ hK B (b + 1) = (1, 6) ∧ hK B (b + 2) = (1, 6)
def oC (B : HP) (c : Nat) : Prop := hK B c = (11, 0) ∧ hR B c 2 = some (c + 1) ∧ hR B c 3 = some (c + 2) ∧ hR B c 4 = some (c + 3) ∧ hR B c 5 = some (c + 4) ∧ hR B c 6 = some (c + 5) ∧ hK B (c + 1) = (1, 10) ∧ hK B (c + 2) = (3, 10) ∧ hK B (c + 3) = (1, 10) ∧ hK B (c + 4) = (1, 10) ∧ hK B (c + 5) = (1, 10)
def oD (B : HP) (b : Nat) : Prop := hK B b = (12, 0) ∧ hR B b 1 = some (b + 1) ∧ hR B b 2 = some (b + 4) ∧ hR B b 3 = some (b + 7) ∧ oB B (b + 1) ∧ oB B (b + 4) ∧ oC B (b + 7)
def sm (f : Nat → Int) : Nat → Int
  | 0 => 0
  | n + 1 => sm f n + f n
theorem st_same (I : IM) (a k : Nat) (v : Int) : st I a k v a k = v := if_pos ⟨rfl, rfl⟩
theorem st_ne (I : IM) {a k b j : Nat} (v : Int) (h : ¬ (b = a ∧ j = k)) : st I a k v b j = I b j := if_neg h
theorem st_row (I : IM) {a k b : Nat} (v : Int) (h : b ≠ a) : st I a k v b = I b := funext fun j => if_neg (fun q => h q.1)
theorem cp_row (I : IM) {s sp d dp n b : Nat} (h : b ≠ d) : cpM I s sp d dp n b = I b := funext fun j => if_neg (fun q => h q.1)
theorem cp_in (I : IM) {s d n j : Nat} (h : j < n) : cpM I s 0 d 0 n d j = I s j := by
  show (if d = d ∧ 0 ≤ j ∧ j < 0 + n then I s (0 + (j - 0)) else I d j) = _
  rw [if_pos ⟨rfl, by omega, by omega⟩, show 0 + (j - 0) = j by omega]
theorem cp_out (I : IM) {s d n j : Nat} (h : n ≤ j) : cpM I s 0 d 0 n d j = I d j := if_neg (fun q => by omega)
/-- the place of the first of n for which it holds -/
def fst (P : Nat → Prop) : Nat → Nat → Prop := fun n p => p < n ∧ P p ∧ ∀ q, q < p → ¬ P q
theorem ifc {α : Type} {p q : Prop} [Decidable p] [Decidable q] (h : p ↔ q) (a b : α) : (if p then a else b) = if q then a else b := by
  by_cases hp : p
  · rw [if_pos hp, if_pos (h.mp hp)]
  · rw [if_neg hp, if_neg (fun z => hp (h.mpr z))]
theorem sm_congr {f g : Nat → Int} : ∀ n : Nat, (∀ k, k < n → f k = g k) → sm f n = sm g n
  | 0, _ => rfl
  | n + 1, h => by
    show sm f n + f n = sm g n + g n
    rw [sm_congr n (fun k hk => h k (by omega)), h n (by omega)]
theorem sm_bd {f : Nat → Int} {a b : Int} : ∀ n : Nat, (∀ k, k < n → a ≤ f k ∧ f k ≤ b) → n * a ≤ sm f n ∧ sm f n ≤ n * b
  | 0, _ => ⟨by simp [sm], by simp [sm]⟩
  | n + 1, h => by
    have h1 := sm_bd n (fun k hk => h k (by omega))
    have h2 := h n (by omega)
    have e1 : ((n + 1 : Nat) : Int) * a = n * a + a := by rw [Int.natCast_add, Int.add_mul]; simp
    have e2 : ((n + 1 : Nat) : Int) * b = n * b + b := by rw [Int.natCast_add, Int.add_mul]; simp
    show _ ≤ sm f n + f n ∧ sm f n + f n ≤ _
    omega

theorem s_B_put {d : Nat} {B : HP} {I : IM} {Post : Out → HP → Prop} {b : Nat} {x lo hi : Int} (hb : oB B b) (hd : 0 ≤ x ∧ x < 6) (hp : Post (.inl none) (wI B (st (st I (b + 1) x.toNat lo) (b + 2) x.toNat hi))) : Sp (d + 1) k_X0_put [.ref b, .int (i3 (x)), .int (i3 (lo)), .int (i3 (hi))] (wI B I) Post := by
  refine Sp_intro md_X0_put rfl rfl (fun G hG => ?_)
  obtain ⟨k1, k2, k3, k4, k5⟩ := hb
  show G 0 [some (.ref b), some (.int (i3 (x))), some (.int (i3 (lo))), some (.int (i3 (hi)))] [] (wI B I)
  refine q_aload_n hG rfl rfl ?_
  refine q_getR hG rfl (by assumption) (by assumption) ?_
  refine q_iload_n hG rfl rfl ?_
  refine q_iload_n hG rfl rfl ?_
  refine q_iast hG rfl (by assumption) ⟨by omega, by omega, by omega⟩ ?_
  refine q_aload_n hG rfl rfl ?_
  refine q_getR hG rfl (by assumption) (by assumption) ?_
  refine q_iload_n hG rfl rfl ?_
  refine q_iload_n hG rfl rfl ?_
  refine q_iast hG rfl (by assumption) ⟨by omega, by omega, by omega⟩ ?_
  refine q_vret hG rfl ?_
  exact hp
theorem s_B_width {d : Nat} {B : HP} {I : IM} {Post : Out → HP → Prop} {b : Nat} {x : Int} (hb : oB B b) (hd : 0 ≤ x ∧ x < 6) (hp : Post (.inl (some (.int (i3 (I (b + 2) x.toNat - I (b + 1) x.toNat + 1))))) (wI B I)) : Sp (d + 1) k_X0_width [.ref b, .int (i3 (x))] (wI B I) Post := by
  refine Sp_intro md_X0_width rfl rfl (fun G hG => ?_)
  obtain ⟨k1, k2, k3, k4, k5⟩ := hb
  show G 0 [some (.ref b), some (.int (i3 (x)))] [] (wI B I)
  refine q_aload_n hG rfl rfl ?_
  refine q_getR hG rfl (by assumption) (by assumption) ?_
  refine q_iload_n hG rfl rfl ?_
  refine q_iald hG rfl (by assumption) ⟨by omega, by omega, by omega⟩ ?_
  refine q_aload_n hG rfl rfl ?_
  refine q_getR hG rfl (by assumption) (by assumption) ?_
  refine q_iload_n hG rfl rfl ?_
  refine q_iald hG rfl (by assumption) ⟨by omega, by omega, by omega⟩ ?_
  refine q_isub hG rfl ?_
  refine q_iconst (v := 1) hG rfl rfl ?_
  refine q_iadd hG rfl ?_
  refine q_iret0 hG rfl rfl ?_
  exact hp
theorem s_B_one {d : Nat} {B : HP} {I : IM} {Post : Out → HP → Prop} {b : Nat} {x : Int} (hb : oB B b) (hd : 0 ≤ x ∧ x < 6) (h1 : r32 (I (b + 1) x.toNat)) (h2 : r32 (I (b + 2) x.toNat)) (p1 : I (b + 1) x.toNat = I (b + 2) x.toNat → Post (.inl (some (.int (i3 1)))) (wI B I)) (p0 : ¬ I (b + 1) x.toNat = I (b + 2) x.toNat → Post (.inl (some (.int (i3 0)))) (wI B I)) : Sp (d + 1) k_X0_isOneHeight [.ref b, .int (i3 (x))] (wI B I) Post := by
  refine Sp_intro md_X0_isOneHeight rfl rfl (fun G hG => ?_)
  obtain ⟨k1, k2, k3, k4, k5⟩ := hb
  show G 0 [some (.ref b), some (.int (i3 (x)))] [] (wI B I)
  refine q_aload_n hG rfl rfl ?_
  refine q_getR hG rfl (by assumption) (by assumption) ?_
  refine q_iload_n hG rfl rfl ?_
  refine q_iald hG rfl (by assumption) ⟨by omega, by omega, by omega⟩ ?_
  refine q_aload_n hG rfl rfl ?_
  refine q_getR hG rfl (by assumption) (by assumption) ?_
  refine q_iload_n hG rfl rfl ?_
  refine q_iald hG rfl (by assumption) ⟨by omega, by omega, by omega⟩ ?_
  refine q_icmp_ne hG rfl (h1) (h2) (fun hc12 => ?_) (fun hc12 => ?_)
  · refine q_iconst (v := 0) hG rfl rfl ?_
    refine q_iret5 hG rfl rfl (by decide) ?_
    exact p0 (by omega)
  · refine q_iconst (v := 1) hG rfl rfl ?_
    refine q_goto hG rfl ?_
    refine q_iret5 hG rfl rfl (by decide) ?_
    exact p1 (by omega)
theorem s_B_empty {d : Nat} {B : HP} {I : IM} {Post : Out → HP → Prop} {b : Nat} {x : Int} (hb : oB B b) (hd : 0 ≤ x ∧ x < 6) (h1 : r32 (I (b + 1) x.toNat)) (h2 : r32 (I (b + 2) x.toNat)) (p1 : I (b + 2) x.toNat < I (b + 1) x.toNat → Post (.inl (some (.int (i3 1)))) (wI B I)) (p0 : ¬ I (b + 2) x.toNat < I (b + 1) x.toNat → Post (.inl (some (.int (i3 0)))) (wI B I)) : Sp (d + 1) k_X0_isEmpty [.ref b, .int (i3 (x))] (wI B I) Post := by
  refine Sp_intro md_X0_isEmpty rfl rfl (fun G hG => ?_)
  obtain ⟨k1, k2, k3, k4, k5⟩ := hb
  show G 0 [some (.ref b), some (.int (i3 (x)))] [] (wI B I)
  refine q_aload_n hG rfl rfl ?_
  refine q_getR hG rfl (by assumption) (by assumption) ?_
  refine q_iload_n hG rfl rfl ?_
  refine q_iald hG rfl (by assumption) ⟨by omega, by omega, by omega⟩ ?_
  refine q_aload_n hG rfl rfl ?_
  refine q_getR hG rfl (by assumption) (by assumption) ?_
  refine q_iload_n hG rfl rfl ?_
  refine q_iald hG rfl (by assumption) ⟨by omega, by omega, by omega⟩ ?_
  refine q_icmp_le hG rfl (h1) (h2) (fun hc12 => ?_) (fun hc12 => ?_)
  · refine q_iconst (v := 0) hG rfl rfl ?_
    refine q_iret5 hG rfl rfl (by decide) ?_
    exact p0 (by omega)
  · refine q_iconst (v := 1) hG rfl rfl ?_
    refine q_goto hG rfl ?_
    refine q_iret5 hG rfl rfl (by decide) ?_
    exact p1 (by omega)
theorem s_B_copy {d : Nat} {B : HP} {I : IM} {Post : Out → HP → Prop} {b o : Nat} (hb : oB B b) (ho : oB B o) (hbo : b + 3 ≤ o ∨ o + 3 ≤ b) (hp : ∀ J : IM, (∀ j, j < 6 → J (b + 1) j = I (o + 1) j) → (∀ j, j < 6 → J (b + 2) j = I (o + 2) j) → (∀ a, a ≠ b + 1 → a ≠ b + 2 → J a = I a) → Post (.inl none) (wI B J)) : Sp (d + 1) k_X0_copyFrom [.ref b, .ref o] (wI B I) Post := by
  refine Sp_intro md_X0_copyFrom rfl rfl (fun G hG => ?_)
  obtain ⟨k1, k2, k3, k4, k5⟩ := hb
  obtain ⟨m1, m2, m3, m4, m5⟩ := ho
  show G 0 [some (.ref b), some (.ref o)] [] (wI B I)
  refine q_aload_n hG rfl rfl ?_
  refine q_getR hG rfl (by assumption) (by assumption) ?_
  refine q_iconst (v := 0) hG rfl rfl ?_
  refine q_aload_n hG rfl rfl ?_
  refine q_getR hG rfl (by assumption) (by assumption) ?_
  refine q_iconst (v := 0) hG rfl rfl ?_
  refine q_bipush (v := 6) hG rfl rfl ?_
  refine q_copyI hG rfl (by assumption) (by assumption) ⟨by omega, by omega, by omega, by omega, by omega, by omega, by omega, by omega⟩ ?_
  refine q_aload_n hG rfl rfl ?_
  refine q_getR hG rfl (by assumption) (by assumption) ?_
  refine q_iconst (v := 0) hG rfl rfl ?_
  refine q_aload_n hG rfl rfl ?_
  refine q_getR hG rfl (by assumption) (by assumption) ?_
  refine q_iconst (v := 0) hG rfl rfl ?_
  refine q_bipush (v := 6) hG rfl rfl ?_
  refine q_copyI hG rfl (by assumption) (by assumption) ⟨by omega, by omega, by omega, by omega, by omega, by omega, by omega, by omega⟩ ?_
  refine q_vret hG rfl ?_
  refine hp _ (fun j hj => ?_) (fun j hj => ?_) (fun a h1 h2 => ?_)
  · rw [cp_row _ (by omega)]
    exact cp_in _ hj
  · refine (cp_in _ hj).trans ?_
    rw [cp_row _ (by omega)]
  · rw [cp_row _ h2, cp_row _ h1]
theorem s_B_fix {d : Nat} {B : HP} {I : IM} {Post : Out → HP → Prop} {b : Nat} {x h : Int} (hb : oB B b) (hd : 0 ≤ x ∧ x < 6) (h1 : r32 (I (b + 1) x.toNat)) (h2 : r32 (I (b + 2) x.toNat)) (hh : r32 h) (p1 : I (b + 1) x.toNat ≤ h → h ≤ I (b + 2) x.toNat → Post (.inl (some (.int (i3 1)))) (wI B (st (st I (b + 1) x.toNat h) (b + 2) x.toNat h))) (p0 : ¬ (I (b + 1) x.toNat ≤ h ∧ h ≤ I (b + 2) x.toNat) → Post (.inl (some (.int (i3 0)))) (wI B I)) : Sp (d + 2) k_X0_fix [.ref b, .int (i3 (x)), .int (i3 (h))] (wI B I) Post := by
  refine Sp_intro md_X0_fix rfl rfl (fun G hG => ?_)
  have hb0 := hb
  obtain ⟨k1, k2, k3, k4, k5⟩ := hb
  show G 0 [some (.ref b), some (.int (i3 (x))), some (.int (i3 (h)))] [] (wI B I)
  refine q_iload_n hG rfl rfl ?_
  refine q_aload_n hG rfl rfl ?_
  refine q_getR hG rfl (by assumption) (by assumption) ?_
  refine q_iload_n hG rfl rfl ?_
  refine q_iald hG rfl (by assumption) ⟨by omega, by omega, by omega⟩ ?_
  refine q_icmp_lt hG rfl (hh) (h1) (fun hc7 => ?_) (fun hc7 => ?_)
  · refine q_iconst (v := 0) hG rfl rfl ?_
    refine q_iret5 hG rfl rfl (by decide) ?_
    exact p0 (by omega)
  · refine q_iload_n hG rfl rfl ?_
    refine q_aload_n hG rfl rfl ?_
    refine q_getR hG rfl (by assumption) (by assumption) ?_
    refine q_iload_n hG rfl rfl ?_
    refine q_iald hG rfl (by assumption) ⟨by omega, by omega, by omega⟩ ?_
    refine q_icmp_le hG rfl (hh) (h2) (fun hc17 => ?_) (fun hc17 => ?_)
    · refine q_aload_n hG rfl rfl ?_
      refine q_iload_n hG rfl rfl ?_
      refine q_iload_n hG rfl rfl ?_
      refine q_iload_n hG rfl rfl ?_
      refine q_callV6 hG rfl rfl rfl (by assumption) (s_B_put hb0 hd ?_)
      refine q_iconst (v := 1) hG rfl rfl ?_
      refine q_iret5 hG rfl rfl (by decide) ?_
      exact p1 (by omega) (by omega)
    · refine q_iconst (v := 0) hG rfl rfl ?_
      refine q_iret5 hG rfl rfl (by decide) ?_
      exact p0 (by omega)
theorem s_B_sum {d : Nat} {B : HP} {I : IM} {Post : Out → HP → Prop} {b : Nat} {n : Int} (hb : oB B b) (hn : 0 ≤ n ∧ n ≤ 6) (hp : Post (.inl (some (.int (i3 (sm (fun k => I (b + 2) k - I (b + 1) k + 1) n.toNat))))) (wI B I)) : Sp (d + 2) k_X0_sumOfWidths [.ref b, .int (i3 (n))] (wI B I) Post := by
  refine Sp_intro md_X0_sumOfWidths rfl rfl (fun G hG => ?_)
  have hb0 := hb
  obtain ⟨k1, k2, k3, k4, k5⟩ := hb
  have lp : ∀ (m : Nat) (k : Nat), n.toNat - k = m → k ≤ n.toNat → G 4 [some (.ref b), some (.int (i3 n)), some (.int (i3 (sm (fun k => I (b + 2) k - I (b + 1) k + 1) k))), some (.int (i3 (k : Int)))] [] (wI B I) := by
    intro m
    induction m using Nat.strongRecOn with
    | ind m ih =>
      intro k hme hk
      refine q_iload_n hG rfl rfl ?_
      refine q_iload_n hG rfl rfl ?_
      refine q_icmp_ge hG rfl ⟨by omega, by omega⟩ ⟨by omega, by omega⟩ (fun hc6 => ?_) (fun hc6 => ?_)
      · refine q_iload_n hG rfl rfl ?_
        refine q_iret0 hG rfl rfl ?_
        rw [show n.toNat = k by omega] at hp
        exact hp
      · refine q_iload_n hG rfl rfl ?_
        refine q_aload_n hG rfl rfl ?_
        refine q_iload_n hG rfl rfl ?_
        refine q_callV6 hG rfl rfl rfl (by assumption) (s_B_width hb0 ⟨by omega, by omega⟩ ?_)
        refine q_iadd hG rfl ?_
        refine q_istore_n hG rfl rfl ?_
        refine q_iinc (c := 1) hG rfl rfl rfl rfl ?_
        refine q_goto hG rfl ?_
        exact ih _ (by omega) (k + 1) rfl (by omega)
  show G 0 [some (.ref b), some (.int (i3 (n))), none, none] [] (wI B I)
  refine q_iconst (v := 0) hG rfl rfl ?_
  refine q_istore_n hG rfl rfl ?_
  refine q_iconst (v := 0) hG rfl rfl ?_
  refine q_istore_n hG rfl rfl ?_
  exact lp _ 0 rfl (by omega)
theorem s_C_with {d : Nat} {B : HP} {I : IM} {Post : Out → HP → Prop} {c : Nat} {x : Int} (hc : oC B c) (hn : 0 ≤ I c 0 ∧ I c 0 ≤ 10) (hx : r32 x) (hf : ∀ k : Nat, (k : Int) < I c 0 → r32 (I (c + 3) k) ∧ r32 (I (c + 4) k)) (hp : Post (.inl (some (.int (i3 (sm (fun k => if I (c + 3) k = x ∨ I (c + 4) k = x then 1 else 0) (I c 0).toNat))))) (wI B I)) : Sp (d + 1) k_X1_countWith [.ref c, .int (i3 (x))] (wI B I) Post := by
  refine Sp_intro md_X1_countWith rfl rfl (fun G hG => ?_)
  obtain ⟨k1, k2, k3, k4, k5, k6, k7, k8, k9, k10, k11⟩ := hc
  have lp : ∀ (m : Nat) (k : Nat), (I c 0).toNat - k = m → k ≤ (I c 0).toNat → G 4 [some (.ref c), some (.int (i3 x)), some (.int (i3 (sm (fun k => if I (c + 3) k = x ∨ I (c + 4) k = x then 1 else 0) k))), some (.int (i3 (k : Int)))] [] (wI B I) := by
    intro m
    induction m using Nat.strongRecOn with
    | ind m ih =>
      intro k hme hk
      refine q_iload_n hG rfl rfl ?_
      refine q_aload_n hG rfl rfl ?_
      refine q_getI0 hG rfl (by assumption) ?_
      refine q_icmp_ge hG rfl ⟨by omega, by omega⟩ ⟨by omega, by omega⟩ (fun hc9 => ?_) (fun hc9 => ?_)
      · refine q_iload_n hG rfl rfl ?_
        refine q_iret0 hG rfl rfl ?_
        rw [show (I c 0).toNat = k by omega] at hp
        exact hp
      · refine q_aload_n hG rfl rfl ?_
        refine q_getR hG rfl (by assumption) (by assumption) ?_
        refine q_iload_n hG rfl rfl ?_
        refine q_ialdv (v := I (c + 3) k) hG rfl (by assumption) ⟨by omega, by omega, by omega⟩ rfl ?_
        refine q_iload_n hG rfl rfl ?_
        refine q_icmp_eq hG rfl ((hf k (by omega)).1) (hx) (fun hc19 => ?_) (fun hc19 => ?_)
        · refine q_iinc (c := 1) hG rfl rfl rfl rfl ?_
          refine q_iinc (c := 1) hG rfl rfl rfl rfl ?_
          refine q_goto hG rfl ?_
          refine Eq.mp ?_ (ih _ (by omega) (k + 1) rfl (by omega))
          congr 1
          show [_, _, some (Value.int (i3 (sm _ k + (if I (c + 3) k = x ∨ I (c + 4) k = x then 1 else 0)))), _] = [_, _, _, _]
          first
          | rw [if_pos (by omega)]; rfl
          | rw [if_neg (by omega), Int.add_zero]; rfl
        · refine q_aload_n hG rfl rfl ?_
          refine q_getR hG rfl (by assumption) (by assumption) ?_
          refine q_iload_n hG rfl rfl ?_
          refine q_ialdv (v := I (c + 4) k) hG rfl (by assumption) ⟨by omega, by omega, by omega⟩ rfl ?_
          refine q_iload_n hG rfl rfl ?_
          refine q_icmp_ne hG rfl ((hf k (by omega)).2) (hx) (fun hc29 => ?_) (fun hc29 => ?_)
          · refine q_iinc (c := 1) hG rfl rfl rfl rfl ?_
            refine q_goto hG rfl ?_
            refine Eq.mp ?_ (ih _ (by omega) (k + 1) rfl (by omega))
            congr 1
            show [_, _, some (Value.int (i3 (sm _ k + (if I (c + 3) k = x ∨ I (c + 4) k = x then 1 else 0)))), _] = [_, _, _, _]
            first
            | rw [if_pos (by omega)]; rfl
            | rw [if_neg (by omega), Int.add_zero]; rfl
          · refine q_iinc (c := 1) hG rfl rfl rfl rfl ?_
            refine q_iinc (c := 1) hG rfl rfl rfl rfl ?_
            refine q_goto hG rfl ?_
            refine Eq.mp ?_ (ih _ (by omega) (k + 1) rfl (by omega))
            congr 1
            show [_, _, some (Value.int (i3 (sm _ k + (if I (c + 3) k = x ∨ I (c + 4) k = x then 1 else 0)))), _] = [_, _, _, _]
            first
            | rw [if_pos (by omega)]; rfl
            | rw [if_neg (by omega), Int.add_zero]; rfl
  show G 0 [some (.ref c), some (.int (i3 (x))), none, none] [] (wI B I)
  refine q_iconst (v := 0) hG rfl rfl ?_
  refine q_istore_n hG rfl rfl ?_
  refine q_iconst (v := 0) hG rfl rfl ?_
  refine q_istore_n hG rfl rfl ?_
  exact lp _ 0 rfl (by omega)
theorem s_C_pos {d : Nat} {B : HP} {I : IM} {Post : Out → HP → Prop} {c : Nat} {x : Int} (hc : oC B c) (hn : 0 ≤ I c 0 ∧ I c 0 ≤ 10) (hx : r32 x) (hf : ∀ k : Nat, (k : Int) < I c 0 → r32 (I (c + 1) k)) (p1 : ∀ p : Nat, fst (fun k => I (c + 1) k = x) (I c 0).toNat p → Post (.inl (some (.int (i3 (p : Int))))) (wI B I)) (p0 : (∀ k, k < (I c 0).toNat → ¬ I (c + 1) k = x) → Post (.inl (some (.int (i3 (-1))))) (wI B I)) : Sp (d + 1) k_X1_positionOf [.ref c, .int (i3 (x))] (wI B I) Post := by
  refine Sp_intro md_X1_positionOf rfl rfl (fun G hG => ?_)
  obtain ⟨k1, k2, k3, k4, k5, k6, k7, k8, k9, k10, k11⟩ := hc
  have lp : ∀ (m : Nat) (k : Nat), (I c 0).toNat - k = m → k ≤ (I c 0).toNat → (∀ q, q < k → ¬ I (c + 1) q = x) → G 2 [some (.ref c), some (.int (i3 x)), some (.int (i3 (k : Int)))] [] (wI B I) := by
    intro m
    induction m using Nat.strongRecOn with
    | ind m ih =>
      intro k hme hk hq0
      refine q_iload_n hG rfl rfl ?_
      refine q_aload_n hG rfl rfl ?_
      refine q_getI0 hG rfl (by assumption) ?_
      refine q_icmp_ge hG rfl ⟨by omega, by omega⟩ ⟨by omega, by omega⟩ (fun hc7 => ?_) (fun hc7 => ?_)
      · refine q_iconst (v := -1) hG rfl rfl ?_
        refine q_iret0 hG rfl rfl ?_
        exact p0 (fun q hq => hq0 q (by omega))
      · refine q_aload_n hG rfl rfl ?_
        refine q_getR hG rfl (by assumption) (by assumption) ?_
        refine q_iload_n hG rfl rfl ?_
        refine q_ialdv (v := I (c + 1) k) hG rfl (by assumption) ⟨by omega, by omega, by omega⟩ rfl ?_
        refine q_iload_n hG rfl rfl ?_
        refine q_icmp_ne hG rfl (hf k (by omega)) (hx) (fun hc17 => ?_) (fun hc17 => ?_)
        · refine q_iinc (c := 1) hG rfl rfl rfl rfl ?_
          refine q_goto hG rfl ?_
          exact ih _ (by omega) (k + 1) rfl (by omega) (fun q hq => if e : q = k then by subst e; exact hc17 else hq0 q (by omega))
        · refine q_iload_n hG rfl rfl ?_
          refine q_iret0 hG rfl rfl ?_
          exact p1 k ⟨by omega, by omega, hq0⟩
  show G 0 [some (.ref c), some (.int (i3 (x))), none] [] (wI B I)
  refine q_iconst (v := 0) hG rfl rfl ?_
  refine q_istore_n hG rfl rfl ?_
  exact lp _ 0 rfl (by omega) (fun q hq => by omega)
theorem s_C_same {d : Nat} {B : HP} {I : IM} {Post : Out → HP → Prop} {c : Nat} {y f s g : Int} (hc : oC B c) (hn : 0 ≤ I c 0 ∧ I c 0 ≤ 10) (hx : r32 y ∧ r32 f ∧ r32 s ∧ r32 g) (hf : ∀ k : Nat, (k : Int) < I c 0 → r32 (I (c + 2) k) ∧ r32 (I (c + 3) k) ∧ r32 (I (c + 4) k) ∧ r32 (I (c + 5) k)) (p1 : ∀ p : Nat, fst (fun k => I (c + 2) k = y ∧ I (c + 3) k = f ∧ I (c + 4) k = s ∧ I (c + 5) k = g) (I c 0).toNat p → Post (.inl (some (.int (i3 (p : Int))))) (wI B I)) (p0 : (∀ k, k < (I c 0).toNat → ¬ (I (c + 2) k = y ∧ I (c + 3) k = f ∧ I (c + 4) k = s ∧ I (c + 5) k = g)) → Post (.inl (some (.int (i3 (-1))))) (wI B I)) : Sp (d + 1) k_X1_positionOfSame [.ref c, .int (i3 (y)), .int (i3 (f)), .int (i3 (s)), .int (i3 (g))] (wI B I) Post := by
  refine Sp_intro md_X1_positionOfSame rfl rfl (fun G hG => ?_)
  obtain ⟨k1, k2, k3, k4, k5, k6, k7, k8, k9, k10, k11⟩ := hc
  have lp : ∀ (m : Nat) (k : Nat), (I c 0).toNat - k = m → k ≤ (I c 0).toNat → (∀ q, q < k → ¬ (I (c + 2) q = y ∧ I (c + 3) q = f ∧ I (c + 4) q = s ∧ I (c + 5) q = g)) → G 3 [some (.ref c), some (.int (i3 y)), some (.int (i3 f)), some (.int (i3 s)), some (.int (i3 g)), some (.int (i3 (k : Int)))] [] (wI B I) := by
    intro m
    induction m using Nat.strongRecOn with
    | ind m ih =>
      intro k hme hk hq0
      refine q_iload hG rfl rfl ?_
      refine q_aload_n hG rfl rfl ?_
      refine q_getI0 hG rfl (by assumption) ?_
      refine q_icmp_ge hG rfl ⟨by omega, by omega⟩ ⟨by omega, by omega⟩ (fun hc9 => ?_) (fun hc9 => ?_)
      · refine q_iconst (v := -1) hG rfl rfl ?_
        refine q_iret0 hG rfl rfl ?_
        exact p0 (fun q hq => hq0 q (by omega))
      · refine q_aload_n hG rfl rfl ?_
        refine q_getR hG rfl (by assumption) (by assumption) ?_
        refine q_iload hG rfl rfl ?_
        refine q_caldv (v := I (c + 2) k) hG rfl (by assumption) ⟨by omega, by omega, by omega⟩ rfl ?_
        refine q_iload_n hG rfl rfl ?_
        refine q_icmp_ne hG rfl ((hf k (by omega)).1) (hx.1) (fun hc20 => ?_) (fun hc20 => ?_)
        · refine q_iinc (c := 1) hG rfl rfl rfl rfl ?_
          refine q_goto hG rfl ?_
          exact ih _ (by omega) (k + 1) rfl (by omega) (fun q hq => if e : q = k then by subst e; omega else hq0 q (by omega))
        · refine q_aload_n hG rfl rfl ?_
          refine q_getR hG rfl (by assumption) (by assumption) ?_
          refine q_iload hG rfl rfl ?_
          refine q_ialdv (v := I (c + 3) k) hG rfl (by assumption) ⟨by omega, by omega, by omega⟩ rfl ?_
          refine q_iload_n hG rfl rfl ?_
          refine q_icmp_ne hG rfl ((hf k (by omega)).2.1) (hx.2.1) (fun hc31 => ?_) (fun hc31 => ?_)
          · refine q_iinc (c := 1) hG rfl rfl rfl rfl ?_
            refine q_goto hG rfl ?_
            exact ih _ (by omega) (k + 1) rfl (by omega) (fun q hq => if e : q = k then by subst e; omega else hq0 q (by omega))
          · refine q_aload_n hG rfl rfl ?_
            refine q_getR hG rfl (by assumption) (by assumption) ?_
            refine q_iload hG rfl rfl ?_
            refine q_ialdv (v := I (c + 4) k) hG rfl (by assumption) ⟨by omega, by omega, by omega⟩ rfl ?_
            refine q_iload_n hG rfl rfl ?_
            refine q_icmp_ne hG rfl ((hf k (by omega)).2.2.1) (hx.2.2.1) (fun hc42 => ?_) (fun hc42 => ?_)
            · refine q_iinc (c := 1) hG rfl rfl rfl rfl ?_
              refine q_goto hG rfl ?_
              exact ih _ (by omega) (k + 1) rfl (by omega) (fun q hq => if e : q = k then by subst e; omega else hq0 q (by omega))
            · refine q_aload_n hG rfl rfl ?_
              refine q_getR hG rfl (by assumption) (by assumption) ?_
              refine q_iload hG rfl rfl ?_
              refine q_ialdv (v := I (c + 5) k) hG rfl (by assumption) ⟨by omega, by omega, by omega⟩ rfl ?_
              refine q_iload hG rfl rfl ?_
              refine q_icmp_ne hG rfl ((hf k (by omega)).2.2.2) (hx.2.2.2) (fun hc54 => ?_) (fun hc54 => ?_)
              · refine q_iinc (c := 1) hG rfl rfl rfl rfl ?_
                refine q_goto hG rfl ?_
                exact ih _ (by omega) (k + 1) rfl (by omega) (fun q hq => if e : q = k then by subst e; omega else hq0 q (by omega))
              · refine q_iload hG rfl rfl ?_
                refine q_iret0 hG rfl rfl ?_
                exact p1 k ⟨by omega, by omega, hq0⟩
  show G 0 [some (.ref c), some (.int (i3 (y))), some (.int (i3 (f))), some (.int (i3 (s))), some (.int (i3 (g))), none] [] (wI B I)
  refine q_iconst (v := 0) hG rfl rfl ?_
  refine q_istore hG rfl rfl ?_
  exact lp _ 0 rfl (by omega) (fun q hq => by omega)
theorem s_C_rank {d : Nat} {B : HP} {I : IM} {Post : Out → HP → Prop} {c p : Nat} (hc : oC B c) (hn : 0 ≤ I c 0 ∧ I c 0 ≤ 10) (hpn : (p : Int) < I c 0) (hf : ∀ k : Nat, (k : Int) < I c 0 → r32 (I (c + 5) k)) (hp : Post (.inl (some (.int (i3 (sm (fun o => if I (c + 5) p < I (c + 5) o ∨ (I (c + 5) o = I (c + 5) p ∧ o < p) then 1 else 0) (I c 0).toNat))))) (wI B I)) : Sp (d + 1) k_X1_rankOf [.ref c, .int (i3 ((p : Int)))] (wI B I) Post := by
  refine Sp_intro md_X1_rankOf rfl rfl (fun G hG => ?_)
  obtain ⟨k1, k2, k3, k4, k5, k6, k7, k8, k9, k10, k11⟩ := hc
  have lp : ∀ (m : Nat) (k : Nat), (I c 0).toNat - k = m → k ≤ (I c 0).toNat → G 4 [some (.ref c), some (.int (i3 (p : Int))), some (.int (i3 (sm (fun o => if I (c + 5) p < I (c + 5) o ∨ (I (c + 5) o = I (c + 5) p ∧ o < p) then 1 else 0) k))), some (.int (i3 (k : Int)))] [] (wI B I) := by
    intro m
    induction m using Nat.strongRecOn with
    | ind m ih =>
      intro k hme hk
      refine q_iload_n hG rfl rfl ?_
      refine q_aload_n hG rfl rfl ?_
      refine q_getI0 hG rfl (by assumption) ?_
      refine q_icmp_ge hG rfl ⟨by omega, by omega⟩ ⟨by omega, by omega⟩ (fun hc9 => ?_) (fun hc9 => ?_)
      · refine q_iload_n hG rfl rfl ?_
        refine q_iret0 hG rfl rfl ?_
        rw [show (I c 0).toNat = k by omega] at hp
        exact hp
      · refine q_aload_n hG rfl rfl ?_
        refine q_getR hG rfl (by assumption) (by assumption) ?_
        refine q_iload_n hG rfl rfl ?_
        refine q_ialdv (v := I (c + 5) k) hG rfl (by assumption) ⟨by omega, by omega, by omega⟩ rfl ?_
        refine q_aload_n hG rfl rfl ?_
        refine q_getR hG rfl (by assumption) (by assumption) ?_
        refine q_iload_n hG rfl rfl ?_
        refine q_ialdv (v := I (c + 5) p) hG rfl (by assumption) ⟨by omega, by omega, by omega⟩ rfl ?_
        refine q_icmp_gt hG rfl (hf k (by omega)) (hf p hpn) (fun hc24 => ?_) (fun hc24 => ?_)
        · refine q_iinc (c := 1) hG rfl rfl rfl rfl ?_
          refine q_iinc (c := 1) hG rfl rfl rfl rfl ?_
          refine q_goto hG rfl ?_
          refine Eq.mp ?_ (ih _ (by omega) (k + 1) rfl (by omega))
          congr 1
          show [_, _, some (Value.int (i3 (sm _ k + (if I (c + 5) p < I (c + 5) k ∨ (I (c + 5) k = I (c + 5) p ∧ k < p) then 1 else 0)))), _] = [_, _, _, _]
          first
          | rw [if_pos (by omega)]; rfl
          | rw [if_neg (by omega), Int.add_zero]; rfl
        · refine q_aload_n hG rfl rfl ?_
          refine q_getR hG rfl (by assumption) (by assumption) ?_
          refine q_iload_n hG rfl rfl ?_
          refine q_ialdv (v := I (c + 5) k) hG rfl (by assumption) ⟨by omega, by omega, by omega⟩ rfl ?_
          refine q_aload_n hG rfl rfl ?_
          refine q_getR hG rfl (by assumption) (by assumption) ?_
          refine q_iload_n hG rfl rfl ?_
          refine q_ialdv (v := I (c + 5) p) hG rfl (by assumption) ⟨by omega, by omega, by omega⟩ rfl ?_
          refine q_icmp_ne hG rfl (hf k (by omega)) (hf p hpn) (fun hc39 => ?_) (fun hc39 => ?_)
          · refine q_iinc (c := 1) hG rfl rfl rfl rfl ?_
            refine q_goto hG rfl ?_
            refine Eq.mp ?_ (ih _ (by omega) (k + 1) rfl (by omega))
            congr 1
            show [_, _, some (Value.int (i3 (sm _ k + (if I (c + 5) p < I (c + 5) k ∨ (I (c + 5) k = I (c + 5) p ∧ k < p) then 1 else 0)))), _] = [_, _, _, _]
            first
            | rw [if_pos (by omega)]; rfl
            | rw [if_neg (by omega), Int.add_zero]; rfl
          · refine q_iload_n hG rfl rfl ?_
            refine q_iload_n hG rfl rfl ?_
            refine q_icmp_ge hG rfl ⟨by omega, by omega⟩ ⟨by omega, by omega⟩ (fun hc44 => ?_) (fun hc44 => ?_)
            · refine q_iinc (c := 1) hG rfl rfl rfl rfl ?_
              refine q_goto hG rfl ?_
              refine Eq.mp ?_ (ih _ (by omega) (k + 1) rfl (by omega))
              congr 1
              show [_, _, some (Value.int (i3 (sm _ k + (if I (c + 5) p < I (c + 5) k ∨ (I (c + 5) k = I (c + 5) p ∧ k < p) then 1 else 0)))), _] = [_, _, _, _]
              first
              | rw [if_pos (by omega)]; rfl
              | rw [if_neg (by omega), Int.add_zero]; rfl
            · refine q_iinc (c := 1) hG rfl rfl rfl rfl ?_
              refine q_iinc (c := 1) hG rfl rfl rfl rfl ?_
              refine q_goto hG rfl ?_
              refine Eq.mp ?_ (ih _ (by omega) (k + 1) rfl (by omega))
              congr 1
              show [_, _, some (Value.int (i3 (sm _ k + (if I (c + 5) p < I (c + 5) k ∨ (I (c + 5) k = I (c + 5) p ∧ k < p) then 1 else 0)))), _] = [_, _, _, _]
              first
              | rw [if_pos (by omega)]; rfl
              | rw [if_neg (by omega), Int.add_zero]; rfl
  show G 0 [some (.ref c), some (.int (i3 ((p : Int)))), none, none] [] (wI B I)
  refine q_iconst (v := 0) hG rfl rfl ?_
  refine q_istore_n hG rfl rfl ?_
  refine q_iconst (v := 0) hG rfl rfl ?_
  refine q_istore_n hG rfl rfl ?_
  exact lp _ 0 rfl (by omega)
theorem s_C_at {d : Nat} {B : HP} {I : IM} {Post : Out → HP → Prop} {c : Nat} {x : Int} (hc : oC B c) (hn : 0 ≤ I c 0 ∧ I c 0 ≤ 10) (hx : r32 x) (hf : ∀ k : Nat, (k : Int) < I c 0 → r32 (I (c + 5) k)) (p1 : ∀ p : Nat, fst (fun q => sm (fun o => if I (c + 5) q < I (c + 5) o ∨ (I (c + 5) o = I (c + 5) q ∧ o < q) then 1 else 0) (I c 0).toNat = x) (I c 0).toNat p → Post (.inl (some (.int (i3 (p : Int))))) (wI B I)) (p0 : (∀ q, q < (I c 0).toNat → ¬ sm (fun o => if I (c + 5) q < I (c + 5) o ∨ (I (c + 5) o = I (c + 5) q ∧ o < q) then 1 else 0) (I c 0).toNat = x) → Post (.inl (some (.int (i3 (-1))))) (wI B I)) : Sp (d + 2) k_X1_positionAtRank [.ref c, .int (i3 (x))] (wI B I) Post := by
  refine Sp_intro md_X1_positionAtRank rfl rfl (fun G hG => ?_)
  have hc0 := hc
  obtain ⟨k1, k2, k3, k4, k5, k6, k7, k8, k9, k10, k11⟩ := hc
  have lp : ∀ (m : Nat) (k : Nat), (I c 0).toNat - k = m → k ≤ (I c 0).toNat → (∀ q, q < k → ¬ sm (fun o => if I (c + 5) q < I (c + 5) o ∨ (I (c + 5) o = I (c + 5) q ∧ o < q) then 1 else 0) (I c 0).toNat = x) → G 2 [some (.ref c), some (.int (i3 x)), some (.int (i3 (k : Int)))] [] (wI B I) := by
    intro m
    induction m using Nat.strongRecOn with
    | ind m ih =>
      intro k hme hk hq0
      refine q_iload_n hG rfl rfl ?_
      refine q_aload_n hG rfl rfl ?_
      refine q_getI0 hG rfl (by assumption) ?_
      refine q_icmp_ge hG rfl ⟨by omega, by omega⟩ ⟨by omega, by omega⟩ (fun hc7 => ?_) (fun hc7 => ?_)
      · refine q_iconst (v := -1) hG rfl rfl ?_
        refine q_iret0 hG rfl rfl ?_
        exact p0 (fun q hq => hq0 q (by omega))
      · refine q_aload_n hG rfl rfl ?_
        refine q_iload_n hG rfl rfl ?_
        refine q_callV6 hG rfl rfl rfl (by assumption) (s_C_rank hc0 hn (by omega) hf ?_)
        refine q_iload_n hG rfl rfl ?_
        refine q_icmp_ne hG rfl (by have := sm_bd (f := fun o => if I (c + 5) k < I (c + 5) o ∨ (I (c + 5) o = I (c + 5) k ∧ o < k) then 1 else 0) (a := 0) (b := 1) (I c 0).toNat (fun z _ => by split <;> omega); exact ⟨by omega, by omega⟩) (hx) (fun hc16 => ?_) (fun hc16 => ?_)
        · refine q_iinc (c := 1) hG rfl rfl rfl rfl ?_
          refine q_goto hG rfl ?_
          exact ih _ (by omega) (k + 1) rfl (by omega) (fun q hq => if e : q = k then by subst e; exact hc16 else hq0 q (by omega))
        · refine q_iload_n hG rfl rfl ?_
          refine q_iret0 hG rfl rfl ?_
          exact p1 k ⟨by omega, by omega, hq0⟩
  show G 0 [some (.ref c), some (.int (i3 (x))), none] [] (wI B I)
  refine q_iconst (v := 0) hG rfl rfl ?_
  refine q_istore_n hG rfl rfl ?_
  exact lp _ 0 rfl (by omega) (fun q hq => by omega)
theorem s_C_append {d : Nat} {B : HP} {I : IM} {Post : Out → HP → Prop} {c : Nat} {y f s g : Int} (hc : oC B c) (hn : 0 ≤ I c 0 ∧ I c 0 < 10) (hy : 0 ≤ y ∧ y < 65536) (hp : ∀ J : IM, J (c + 1) = (fun q => if q = (I c 0).toNat then I c 1 else I (c + 1) q) → J (c + 2) = (fun q => if q = (I c 0).toNat then y else I (c + 2) q) → J (c + 3) = (fun q => if q = (I c 0).toNat then f else I (c + 3) q) → J (c + 4) = (fun q => if q = (I c 0).toNat then s else I (c + 4) q) → J (c + 5) = (fun q => if q = (I c 0).toNat then g else I (c + 5) q) → J c 0 = I c 0 + 1 → J c 1 = I c 1 + 1 → (∀ a, a < c ∨ c + 5 < a → J a = I a) → Post (.inl (some (.int (i3 (I c 1))))) (wI B J)) : Sp (d + 1) k_X1_append [.ref c, .int (i3 (y)), .int (i3 (f)), .int (i3 (s)), .int (i3 (g))] (wI B I) Post := by
  refine Sp_intro md_X1_append rfl rfl (fun G hG => ?_)
  obtain ⟨k1, k2, k3, k4, k5, k6, k7, k8, k9, k10, k11⟩ := hc
  show G 0 [some (.ref c), some (.int (i3 (y))), some (.int (i3 (f))), some (.int (i3 (s))), some (.int (i3 (g))), none] [] (wI B I)
  refine q_aload_n hG rfl rfl ?_
  refine q_getI0 hG rfl (by assumption) ?_
  refine q_istore hG rfl rfl ?_
  refine q_aload_n hG rfl rfl ?_
  refine q_getR hG rfl (by assumption) (by assumption) ?_
  refine q_aload_n hG rfl rfl ?_
  refine q_getI0 hG rfl (by assumption) ?_
  refine q_iload hG rfl rfl ?_
  refine q_iast hG rfl (by assumption) ⟨by omega, by omega, by omega⟩ ?_
  refine q_aload_n hG rfl rfl ?_
  refine q_getR hG rfl (by assumption) (by assumption) ?_
  refine q_aload_n hG rfl rfl ?_
  refine q_getI0v (v := I c 0) hG rfl (by assumption) (by simp [st]) ?_
  refine q_iload_n hG rfl rfl ?_
  refine q_cast hG rfl (by assumption) ⟨by omega, by omega, by omega⟩ ⟨by omega, by omega⟩ ?_
  refine q_aload_n hG rfl rfl ?_
  refine q_getR hG rfl (by assumption) (by assumption) ?_
  refine q_aload_n hG rfl rfl ?_
  refine q_getI0v (v := I c 0) hG rfl (by assumption) (by simp [st]) ?_
  refine q_iload_n hG rfl rfl ?_
  refine q_iast hG rfl (by assumption) ⟨by omega, by omega, by omega⟩ ?_
  refine q_aload_n hG rfl rfl ?_
  refine q_getR hG rfl (by assumption) (by assumption) ?_
  refine q_aload_n hG rfl rfl ?_
  refine q_getI0v (v := I c 0) hG rfl (by assumption) (by simp [st]) ?_
  refine q_iload_n hG rfl rfl ?_
  refine q_iast hG rfl (by assumption) ⟨by omega, by omega, by omega⟩ ?_
  refine q_aload_n hG rfl rfl ?_
  refine q_getR hG rfl (by assumption) (by assumption) ?_
  refine q_aload_n hG rfl rfl ?_
  refine q_getI0v (v := I c 0) hG rfl (by assumption) (by simp [st]) ?_
  refine q_iload hG rfl rfl ?_
  refine q_iast hG rfl (by assumption) ⟨by omega, by omega, by omega⟩ ?_
  refine q_aload_n hG rfl rfl ?_
  refine q_dup hG rfl rfl ?_
  refine q_getI0v (v := I c 0) hG rfl (by assumption) (by simp [st]) ?_
  refine q_iconst (v := 1) hG rfl rfl ?_
  refine q_iadd hG rfl ?_
  refine q_putI0 hG rfl (by assumption) ?_
  refine q_aload_n hG rfl rfl ?_
  refine q_dup hG rfl rfl ?_
  refine q_getI0v (v := I c 1) hG rfl (by assumption) (by simp [st]) ?_
  refine q_iconst (v := 1) hG rfl rfl ?_
  refine q_iadd hG rfl ?_
  refine q_putI0 hG rfl (by assumption) ?_
  refine q_iload hG rfl rfl ?_
  refine q_iret0 hG rfl rfl ?_
  refine hp _ ?_ ?_ ?_ ?_ ?_ ?_ ?_ (fun a ha => ?_)
  · funext q; simp [st]
  · funext q; simp [st]
  · funext q; simp [st]
  · funext q; simp [st]
  · funext q; simp [st]
  · simp [st]
  · simp [st]
  · rw [st_row _ _ (by omega), st_row _ _ (by omega), st_row _ _ (by omega), st_row _ _ (by omega), st_row _ _ (by omega), st_row _ _ (by omega), st_row _ _ (by omega)]
theorem s_C_takeOut {d : Nat} {B : HP} {I : IM} {Post : Out → HP → Prop} {c p : Nat} (hc : oC B c) (hn : 0 ≤ I c 0 ∧ I c 0 ≤ 10) (hpn : (p : Int) < I c 0) (hy : ∀ q, q < 10 → 0 ≤ I (c + 2) q ∧ I (c + 2) q < 65536) (hp : ∀ J : IM, J c 0 = I c 0 - 1 → J c 1 = I c 1 → J (c + 1) = (fun q => if p ≤ q ∧ (q : Int) < I c 0 - 1 then I (c + 1) (q + 1) else I (c + 1) q) → J (c + 2) = (fun q => if p ≤ q ∧ (q : Int) < I c 0 - 1 then I (c + 2) (q + 1) else I (c + 2) q) → J (c + 3) = (fun q => if p ≤ q ∧ (q : Int) < I c 0 - 1 then I (c + 3) (q + 1) else I (c + 3) q) → J (c + 4) = (fun q => if p ≤ q ∧ (q : Int) < I c 0 - 1 then I (c + 4) (q + 1) else I (c + 4) q) → J (c + 5) = (fun q => if p ≤ q ∧ (q : Int) < I c 0 - 1 then I (c + 5) (q + 1) else I (c + 5) q) → (∀ a, a < c ∨ c + 5 < a → J a = I a) → Post (.inl none) (wI B J)) : Sp (d + 1) k_X1_takeOut [.ref c, .int (i3 ((p : Int)))] (wI B I) Post := by
  refine Sp_intro md_X1_takeOut rfl rfl (fun G hG => ?_)
  obtain ⟨k1, k2, k3, k4, k5, k6, k7, k8, k9, k10, k11⟩ := hc
  have lp : ∀ (m : Nat) (k : Nat) (J : IM), (I c 0).toNat - k = m → p ≤ k → (k : Int) ≤ I c 0 - 1 → J c 0 = I c 0 - 1 → J c 1 = I c 1 → J (c + 1) = (fun q => if p ≤ q ∧ q < k then I (c + 1) (q + 1) else I (c + 1) q) → J (c + 2) = (fun q => if p ≤ q ∧ q < k then I (c + 2) (q + 1) else I (c + 2) q) → J (c + 3) = (fun q => if p ≤ q ∧ q < k then I (c + 3) (q + 1) else I (c + 3) q) → J (c + 4) = (fun q => if p ≤ q ∧ q < k then I (c + 4) (q + 1) else I (c + 4) q) → J (c + 5) = (fun q => if p ≤ q ∧ q < k then I (c + 5) (q + 1) else I (c + 5) q) → (∀ a, a < c ∨ c + 5 < a → J a = I a) → G 12 [some (.ref c), some (.int (i3 (p : Int))), some (.int (i3 (k : Int)))] [] (wI B J) := by
    intro m
    induction m using Nat.strongRecOn with
    | ind m ih =>
      intro k J hme hk hk2 hJ0 hJn hJ1 hJ2 hJ3 hJ4 hJ5 hJo
      refine q_iload_n hG rfl rfl ?_
      refine q_aload_n hG rfl rfl ?_
      refine q_getI0v (v := I c 0 - 1) hG rfl (by assumption) (hJ0) ?_
      refine q_icmp_ge hG rfl ⟨by omega, by omega⟩ ⟨by omega, by omega⟩ (fun hc17 => ?_) (fun hc17 => ?_)
      · refine q_vret hG rfl ?_
        exact hp _ hJ0 hJn (by rw [hJ1]; funext q; exact ifc (by omega) _ _) (by rw [hJ2]; funext q; exact ifc (by omega) _ _) (by rw [hJ3]; funext q; exact ifc (by omega) _ _) (by rw [hJ4]; funext q; exact ifc (by omega) _ _) (by rw [hJ5]; funext q; exact ifc (by omega) _ _) hJo
      · refine q_aload_n hG rfl rfl ?_
        refine q_getR hG rfl (by assumption) (by assumption) ?_
        refine q_iload_n hG rfl rfl ?_
        refine q_aload_n hG rfl rfl ?_
        refine q_getR hG rfl (by assumption) (by assumption) ?_
        refine q_iload_n hG rfl rfl ?_
        refine q_iconst (v := 1) hG rfl rfl ?_
        refine q_iadd hG rfl ?_
        refine q_ialdv (v := I (c + 1) (k + 1)) hG rfl (by assumption) ⟨by omega, by omega, by omega⟩ (by rw [show ((k : Int) + 1).toNat = k + 1 from rfl]; simp [st, hJ1]; omega) ?_
        refine q_iast hG rfl (by assumption) ⟨by omega, by omega, by omega⟩ ?_
        refine q_aload_n hG rfl rfl ?_
        refine q_getR hG rfl (by assumption) (by assumption) ?_
        refine q_iload_n hG rfl rfl ?_
        refine q_aload_n hG rfl rfl ?_
        refine q_getR hG rfl (by assumption) (by assumption) ?_
        refine q_iload_n hG rfl rfl ?_
        refine q_iconst (v := 1) hG rfl rfl ?_
        refine q_iadd hG rfl ?_
        refine q_caldv (v := I (c + 2) (k + 1)) hG rfl (by assumption) ⟨by omega, by omega, by omega⟩ (by rw [show ((k : Int) + 1).toNat = k + 1 from rfl]; simp [st, hJ2]; omega) ?_
        have hyk := hy (k + 1) (by omega)
        refine q_cast hG rfl (by assumption) ⟨by omega, by omega, by omega⟩ ⟨by omega, by omega⟩ ?_
        refine q_aload_n hG rfl rfl ?_
        refine q_getR hG rfl (by assumption) (by assumption) ?_
        refine q_iload_n hG rfl rfl ?_
        refine q_aload_n hG rfl rfl ?_
        refine q_getR hG rfl (by assumption) (by assumption) ?_
        refine q_iload_n hG rfl rfl ?_
        refine q_iconst (v := 1) hG rfl rfl ?_
        refine q_iadd hG rfl ?_
        refine q_ialdv (v := I (c + 3) (k + 1)) hG rfl (by assumption) ⟨by omega, by omega, by omega⟩ (by rw [show ((k : Int) + 1).toNat = k + 1 from rfl]; simp [st, hJ3]; omega) ?_
        refine q_iast hG rfl (by assumption) ⟨by omega, by omega, by omega⟩ ?_
        refine q_aload_n hG rfl rfl ?_
        refine q_getR hG rfl (by assumption) (by assumption) ?_
        refine q_iload_n hG rfl rfl ?_
        refine q_aload_n hG rfl rfl ?_
        refine q_getR hG rfl (by assumption) (by assumption) ?_
        refine q_iload_n hG rfl rfl ?_
        refine q_iconst (v := 1) hG rfl rfl ?_
        refine q_iadd hG rfl ?_
        refine q_ialdv (v := I (c + 4) (k + 1)) hG rfl (by assumption) ⟨by omega, by omega, by omega⟩ (by rw [show ((k : Int) + 1).toNat = k + 1 from rfl]; simp [st, hJ4]; omega) ?_
        refine q_iast hG rfl (by assumption) ⟨by omega, by omega, by omega⟩ ?_
        refine q_aload_n hG rfl rfl ?_
        refine q_getR hG rfl (by assumption) (by assumption) ?_
        refine q_iload_n hG rfl rfl ?_
        refine q_aload_n hG rfl rfl ?_
        refine q_getR hG rfl (by assumption) (by assumption) ?_
        refine q_iload_n hG rfl rfl ?_
        refine q_iconst (v := 1) hG rfl rfl ?_
        refine q_iadd hG rfl ?_
        refine q_ialdv (v := I (c + 5) (k + 1)) hG rfl (by assumption) ⟨by omega, by omega, by omega⟩ (by rw [show ((k : Int) + 1).toNat = k + 1 from rfl]; simp [st, hJ5]; omega) ?_
        refine q_iast hG rfl (by assumption) ⟨by omega, by omega, by omega⟩ ?_
        refine q_iinc (c := 1) hG rfl rfl rfl rfl ?_
        refine q_goto hG rfl ?_
        exact ih _ (by omega) (k + 1) _ rfl (by omega) (by omega) (by simp [st, hJ0]) (by simp [st, hJn]) (by funext q; simp [st, hJ1]; by_cases e : q = k <;> simp [e] <;> first | done | (intros; omega) | (split <;> split <;> first | rfl | omega)) (by funext q; simp [st, hJ2]; by_cases e : q = k <;> simp [e] <;> first | done | (intros; omega) | (split <;> split <;> first | rfl | omega)) (by funext q; simp [st, hJ3]; by_cases e : q = k <;> simp [e] <;> first | done | (intros; omega) | (split <;> split <;> first | rfl | omega)) (by funext q; simp [st, hJ4]; by_cases e : q = k <;> simp [e] <;> first | done | (intros; omega) | (split <;> split <;> first | rfl | omega)) (by funext q; simp [st, hJ5]; by_cases e : q = k <;> simp [e] <;> first | done | (intros; omega) | (split <;> split <;> first | rfl | omega)) (fun a ha => by rw [st_row _ _ (by omega), st_row _ _ (by omega), st_row _ _ (by omega), st_row _ _ (by omega), st_row _ _ (by omega)]; exact hJo a ha)
  show G 0 [some (.ref c), some (.int (i3 ((p : Int)))), none] [] (wI B I)
  refine q_aload_n hG rfl rfl ?_
  refine q_dup hG rfl rfl ?_
  refine q_getI0v (v := I c 0) hG rfl (by assumption) (rfl) ?_
  refine q_iconst (v := 1) hG rfl rfl ?_
  refine q_isub hG rfl ?_
  refine q_putI0 hG rfl (by assumption) ?_
  refine q_iload_n hG rfl rfl ?_
  refine q_istore_n hG rfl rfl ?_
  exact lp _ p _ rfl (by omega) (by omega) (by simp [st]) (by simp [st]) (by funext q; simp [st]; intros; omega) (by funext q; simp [st]; intros; omega) (by funext q; simp [st]; intros; omega) (by funext q; simp [st]; intros; omega) (by funext q; simp [st]; intros; omega) (fun a ha => by rw [st_row _ _ (by omega)])
theorem s_C_copy {d : Nat} {B : HP} {I : IM} {Post : Out → HP → Prop} {c o : Nat} (hc : oC B c) (ho : oC B o) (hco : c + 6 ≤ o ∨ o + 6 ≤ c) (hy : ∀ q, q < 10 → 0 ≤ I (o + 2) q ∧ I (o + 2) q < 65536) (hp : ∀ J : IM, J c 0 = I o 0 → J c 1 = I o 1 → (∀ j, j < 10 → J (c + 1) j = I (o + 1) j) → (∀ j, j < 10 → J (c + 2) j = I (o + 2) j) → (∀ j, j < 10 → J (c + 3) j = I (o + 3) j) → (∀ j, j < 10 → J (c + 4) j = I (o + 4) j) → (∀ j, j < 10 → J (c + 5) j = I (o + 5) j) → (∀ a, a < c ∨ c + 5 < a → J a = I a) → Post (.inl none) (wI B J)) : Sp (d + 1) k_X1_copyFrom [.ref c, .ref o] (wI B I) Post := by
  refine Sp_intro md_X1_copyFrom rfl rfl (fun G hG => ?_)
  obtain ⟨k1, k2, k3, k4, k5, k6, k7, k8, k9, k10, k11⟩ := hc
  obtain ⟨m1, m2, m3, m4, m5, m6, m7, m8, m9, m10, m11⟩ := ho
  show G 0 [some (.ref c), some (.ref o)] [] (wI B I)
  refine q_aload_n hG rfl rfl ?_
  refine q_aload_n hG rfl rfl ?_
  refine q_getI0 hG rfl (by assumption) ?_
  refine q_putI0 hG rfl (by assumption) ?_
  refine q_aload_n hG rfl rfl ?_
  refine q_aload_n hG rfl rfl ?_
  refine q_getI0 hG rfl (by assumption) ?_
  refine q_putI0 hG rfl (by assumption) ?_
  refine q_aload_n hG rfl rfl ?_
  refine q_getR hG rfl (by assumption) (by assumption) ?_
  refine q_iconst (v := 0) hG rfl rfl ?_
  refine q_aload_n hG rfl rfl ?_
  refine q_getR hG rfl (by assumption) (by assumption) ?_
  refine q_iconst (v := 0) hG rfl rfl ?_
  refine q_bipush (v := 10) hG rfl rfl ?_
  refine q_copyI hG rfl (by assumption) (by assumption) ⟨by omega, by omega, by omega, by omega, by omega, by omega, by omega, by omega⟩ ?_
  refine q_aload_n hG rfl rfl ?_
  refine q_getR hG rfl (by assumption) (by assumption) ?_
  refine q_iconst (v := 0) hG rfl rfl ?_
  refine q_aload_n hG rfl rfl ?_
  refine q_getR hG rfl (by assumption) (by assumption) ?_
  refine q_iconst (v := 0) hG rfl rfl ?_
  refine q_bipush (v := 10) hG rfl rfl ?_
  refine q_copyC hG rfl (by assumption) (by assumption) ⟨by omega, by omega, by omega, by omega, by omega, by omega, by omega, by omega⟩ (fun j hj => by rw [cp_row _ (by omega), st_row _ _ (by omega), st_row _ _ (by omega)]; exact hy _ (by omega)) ?_
  refine q_aload_n hG rfl rfl ?_
  refine q_getR hG rfl (by assumption) (by assumption) ?_
  refine q_iconst (v := 0) hG rfl rfl ?_
  refine q_aload_n hG rfl rfl ?_
  refine q_getR hG rfl (by assumption) (by assumption) ?_
  refine q_iconst (v := 0) hG rfl rfl ?_
  refine q_bipush (v := 10) hG rfl rfl ?_
  refine q_copyI hG rfl (by assumption) (by assumption) ⟨by omega, by omega, by omega, by omega, by omega, by omega, by omega, by omega⟩ ?_
  refine q_aload_n hG rfl rfl ?_
  refine q_getR hG rfl (by assumption) (by assumption) ?_
  refine q_iconst (v := 0) hG rfl rfl ?_
  refine q_aload_n hG rfl rfl ?_
  refine q_getR hG rfl (by assumption) (by assumption) ?_
  refine q_iconst (v := 0) hG rfl rfl ?_
  refine q_bipush (v := 10) hG rfl rfl ?_
  refine q_copyI hG rfl (by assumption) (by assumption) ⟨by omega, by omega, by omega, by omega, by omega, by omega, by omega, by omega⟩ ?_
  refine q_aload_n hG rfl rfl ?_
  refine q_getR hG rfl (by assumption) (by assumption) ?_
  refine q_iconst (v := 0) hG rfl rfl ?_
  refine q_aload_n hG rfl rfl ?_
  refine q_getR hG rfl (by assumption) (by assumption) ?_
  refine q_iconst (v := 0) hG rfl rfl ?_
  refine q_bipush (v := 10) hG rfl rfl ?_
  refine q_copyI hG rfl (by assumption) (by assumption) ⟨by omega, by omega, by omega, by omega, by omega, by omega, by omega, by omega⟩ ?_
  refine q_vret hG rfl ?_
  refine hp _ ?_ ?_ (fun j hj => ?_) (fun j hj => ?_) (fun j hj => ?_) (fun j hj => ?_) (fun j hj => ?_) (fun a ha => ?_)
  · rw [cp_row _ (by omega), cp_row _ (by omega), cp_row _ (by omega), cp_row _ (by omega), cp_row _ (by omega), st_ne _ _ (by omega), st_same]
  · rw [cp_row _ (by omega), cp_row _ (by omega), cp_row _ (by omega), cp_row _ (by omega), cp_row _ (by omega), st_same, st_row _ _ (by omega)]
  · rw [cp_row _ (by omega), cp_row _ (by omega), cp_row _ (by omega), cp_row _ (by omega)]
    refine (cp_in _ hj).trans ?_
    rw [st_row _ _ (by omega), st_row _ _ (by omega)]
  · rw [cp_row _ (by omega), cp_row _ (by omega), cp_row _ (by omega)]
    refine (cp_in _ hj).trans ?_
    rw [cp_row _ (by omega), st_row _ _ (by omega), st_row _ _ (by omega)]
  · rw [cp_row _ (by omega), cp_row _ (by omega)]
    refine (cp_in _ hj).trans ?_
    rw [cp_row _ (by omega), cp_row _ (by omega), st_row _ _ (by omega), st_row _ _ (by omega)]
  · rw [cp_row _ (by omega)]
    refine (cp_in _ hj).trans ?_
    rw [cp_row _ (by omega), cp_row _ (by omega), cp_row _ (by omega), st_row _ _ (by omega), st_row _ _ (by omega)]
  · refine (cp_in _ hj).trans ?_
    rw [cp_row _ (by omega), cp_row _ (by omega), cp_row _ (by omega), cp_row _ (by omega), st_row _ _ (by omega), st_row _ _ (by omega)]
  · rw [cp_row _ (by omega), cp_row _ (by omega), cp_row _ (by omega), cp_row _ (by omega), cp_row _ (by omega), st_row _ _ (by omega), st_row _ _ (by omega)]
