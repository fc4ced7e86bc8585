/-! objects are made -/
/-- what is done to the heap: a new cell, a reference noted, rows of rows -/
abbrev OP : Type := Nat × Nat × Nat × Nat
def run1 (o : OP) (B : HP) : HP := match o with
  | (0, k, n, w) => mk B (k, n) w
  | (1, a, i, v) => sR B a i (some v)
  | (_, _, c, n) => mkG B 6 1 c n
def run : List OP → HP → HP
  | [], B => B
  | o :: l, B => run l (run1 o B)
def cnt : List OP → Nat
  | [] => 0
  | (0, _, _, _) :: l => cnt l + 1
  | (1, _, _, _) :: l => cnt l
  | (_, _, c, _) :: l => cnt l + (c + 1)
/-- rows that are new are zero -/
def zer (I J : IM) (s e : Nat) : Prop := (∀ b, (b < s ∨ e ≤ b) → J b = I b) ∧ ∀ b, s ≤ b → b < e → J b = fun _ => 0
theorem zer.refl (I : IM) (s : Nat) : zer I I s s := ⟨fun _ _ => rfl, fun b h1 h2 => by omega⟩
theorem zer.one (I : IM) (s : Nat) : zer I (zM I s) s (s + 1) := ⟨fun b hb => funext (fun j => if_neg (by omega)), fun b h1 h2 => funext (fun j => if_pos (by omega))⟩
theorem zer.trans {I J K : IM} {s t e : Nat} (h : zer I J s t) (h2 : zer J K t e) (h3 : s ≤ t ∧ t ≤ e) : zer I K s e := ⟨fun b hb => (h2.1 b (by omega)).trans (h.1 b (by omega)), fun b h4 h5 => if z : b < t then (h2.1 b (by omega)).trans (h.2 b h4 z) else h2.2 b (by omega) h5⟩
def zG (I : IM) (s c : Nat) : IM := fun b j => if s ≤ b ∧ b ≤ s + c then 0 else I b j
theorem zer.grp (I : IM) (s c : Nat) : zer I (zG I s c) s (s + 1 + c) := ⟨fun b hb => funext (fun j => if_neg (by omega)), fun b h1 h2 => funext (fun j => if_pos (by omega))⟩
theorem wI_mkG (B : HP) (I : IM) (c n : Nat) : mkG (wI B I) 6 1 c n = wI (mkG B 6 1 c n) (zG I (hn B) c) := by
  unfold mkG wI zG
  congr 2
  funext x j
  show (if hn B ≤ x ∧ x ≤ hn B + c then 0 else i3 (I x j)) = i3 (if hn B ≤ x ∧ x ≤ hn B + c then 0 else I x j)
  split <;> rfl
section
variable {S : SpecT} {M : MDT} {Post : Out → HP → Prop} {G : Nat → LV → List Value → HP → Prop} {pc nx : Nat} {cst : Int32} {x : List Nat} {L : LV} {r : List Value} {B : HP} {I : IM}
theorem q_mna (hG : Cl S M Post G) {j u : _} {m n : Int} (hl : lk pc M.1 = some (.multianewarray j u, nx, cst, x)) (hm : 0 ≤ m ∧ m ≤ 1000) (hn9 : 0 < n ∧ n ≤ 1000) (h : G nx L (.ref (hn B) :: r) (wI (mkG B 6 1 n.toNat m.toNat) (zG I (hn B) n.toNat))) : G pc L (.int (i3 m) :: .int (i3 n) :: r) (wI B I) := hG _ _ _ _ (by
  unfold stepP
  rw [hl]
  have hr : r32 m := ⟨by omega, by omega⟩
  have hr2 : r32 n := ⟨by omega, by omega⟩
  refine ⟨fun q => by have := (i3_lt hr r32_0).mp q; omega, fun q => by have := (i3_lt hr2 r32_0).mp q; omega, by rw [i3_cl hr2]; omega, by rw [i3_cl hr]; omega, by rw [i3_cl hr2]; omega, ?_⟩
  rw [i3_cl hr, i3_cl hr2, wI_mkG]
  exact h)
end
theorem run_K : ∀ (l : List OP) {B : HP} {b : Nat}, b < hn B → hK (run l B) b = hK B b ∧ hn B ≤ hn (run l B)
  | [], _, _, _ => ⟨rfl, Nat.le_refl _⟩
  | o :: l, B, b, h => by
    have a : hK (run1 o B) b = hK B b ∧ hn B ≤ hn (run1 o B) := by
      obtain ⟨t, k, n, w⟩ := o
      match t with
      | 0 => exact ⟨if_neg (by omega), Nat.le_succ _⟩
      | 1 => exact ⟨rfl, Nat.le_refl _⟩
      | t + 2 =>
        refine ⟨?_, ?_⟩
        · show (if b = hn B then _ else if hn B < b ∧ b ≤ hn B + n then _ else hK B b) = _
          rw [if_neg (by omega), if_neg (by omega)]
        · show hn B ≤ hn B + 1 + n
          omega
    obtain ⟨c, d⟩ := run_K l (B := run1 o B) (b := b) (by omega)
    exact ⟨c.trans a.1, by show hn B ≤ hn (run l (run1 o B)); omega⟩

def oX0 (a s : Nat) : List OP := [(0, 1, 6, 6), (1, a, 0, s), (0, 1, 6, 6), (1, a, 1, s + 1)]
def oX1 (a s : Nat) : List OP := [(0, 1, 10, 10), (1, a, 2, s), (0, 3, 10, 10), (1, a, 3, s + 1), (0, 1, 10, 10), (1, a, 4, s + 2), (0, 1, 10, 10), (1, a, 5, s + 3), (0, 1, 10, 10), (1, a, 6, s + 4)]
def oX4 (a s : Nat) : List OP := [(0, 1, 6, 6), (1, a, 0, s), (0, 1, 10, 10), (1, a, 1, s + 1)]
def oJ (a s : Nat) : List OP := [(0, 4, 16, 16), (1, a, 0, s)]
theorem s_I_X0 {d : Nat} {B : HP} {I : IM} {Post : Out → HP → Prop} {a : Nat} (hk : hK B a = (10, 0)) (ha : a < hn B) (hp : ∀ J : IM, zer I J (hn B) (hn B + 2) → Post (.inl none) (wI (run (oX0 a (hn B)) B) J)) : Sp (d + 1) k_X0_init [.ref a] (wI B I) Post := by
  refine Sp_intro md_X0_init rfl rfl (fun G hG => ?_)
  show G 0 [some (.ref a)] [] (wI B I)
  refine q_aload_n hG rfl rfl ?_
  refine q_objI hG rfl rfl ?_
  refine q_aload_n hG rfl rfl ?_
  refine q_bipush (v := 6) hG rfl rfl ?_
  refine q_newarr hG rfl ⟨by omega, by omega⟩ ?_
  refine q_putR hG rfl (show hK (run [(0, 1, 6, 6)] B) a = (10, 0) from ((run_K _ ha).1.trans hk)) ?_
  refine q_aload_n hG rfl rfl ?_
  refine q_bipush (v := 6) hG rfl rfl ?_
  refine q_newarr hG rfl ⟨by omega, by omega⟩ ?_
  refine q_putR hG rfl (show hK (run [(0, 1, 6, 6), (1, a, 0, hn B), (0, 1, 6, 6)] B) a = (10, 0) from ((run_K _ ha).1.trans hk)) ?_
  refine q_vret hG rfl ?_
  exact hp _ ((zer.one I (hn B)).trans (zer.one _ (hn B + 1)) ⟨by omega, by omega⟩)
theorem s_I_X1 {d : Nat} {B : HP} {I : IM} {Post : Out → HP → Prop} {a : Nat} (hk : hK B a = (11, 0)) (ha : a < hn B) (hp : ∀ J : IM, zer I J (hn B) (hn B + 5) → Post (.inl none) (wI (run (oX1 a (hn B)) B) J)) : Sp (d + 1) k_X1_init [.ref a] (wI B I) Post := by
  refine Sp_intro md_X1_init rfl rfl (fun G hG => ?_)
  show G 0 [some (.ref a)] [] (wI B I)
  refine q_aload_n hG rfl rfl ?_
  refine q_objI hG rfl rfl ?_
  refine q_aload_n hG rfl rfl ?_
  refine q_bipush (v := 10) hG rfl rfl ?_
  refine q_newarr hG rfl ⟨by omega, by omega⟩ ?_
  refine q_putR hG rfl (show hK (run [(0, 1, 10, 10)] B) a = (11, 0) from ((run_K _ ha).1.trans hk)) ?_
  refine q_aload_n hG rfl rfl ?_
  refine q_bipush (v := 10) hG rfl rfl ?_
  refine q_newarr hG rfl ⟨by omega, by omega⟩ ?_
  refine q_putR hG rfl (show hK (run [(0, 1, 10, 10), (1, a, 2, hn B), (0, 3, 10, 10)] B) a = (11, 0) from ((run_K _ ha).1.trans hk)) ?_
  refine q_aload_n hG rfl rfl ?_
  refine q_bipush (v := 10) hG rfl rfl ?_
  refine q_newarr hG rfl ⟨by omega, by omega⟩ ?_
  refine q_putR hG rfl (show hK (run [(0, 1, 10, 10), (1, a, 2, hn B), (0, 3, 10, 10), (1, a, 3, hn B + 1), (0, 1, 10, 10)] B) a = (11, 0) from ((run_K _ ha).1.trans hk)) ?_
  refine q_aload_n hG rfl rfl ?_
  refine q_bipush (v := 10) hG rfl rfl ?_
  refine q_newarr hG rfl ⟨by omega, by omega⟩ ?_
  refine q_putR hG rfl (show hK (run [(0, 1, 10, 10), (1, a, 2, hn B), (0, 3, 10, 10), (1, a, 3, hn B + 1), (0, 1, 10, 10), (1, a, 4, hn B + 2), (0, 1, 10, 10)] B) a = (11, 0) from ((run_K _ ha).1.trans hk)) ?_
  refine q_aload_n hG rfl rfl ?_
  refine q_bipush (v := 10) hG rfl rfl ?_
  refine q_newarr hG rfl ⟨by omega, by omega⟩ ?_
  refine q_putR hG rfl (show hK (run [(0, 1, 10, 10), (1, a, 2, hn B), (0, 3, 10, 10), (1, a, 3, hn B + 1), (0, 1, 10, 10), (1, a, 4, hn B + 2), (0, 1, 10, 10), (1, a, 5, hn B + 3), (0, 1, 10, 10)] B) a = (11, 0) from ((run_K _ ha).1.trans hk)) ?_
  refine q_vret hG rfl ?_
  exact hp _ (((((zer.one I (hn B)).trans (zer.one _ (hn B + 1)) ⟨by omega, by omega⟩).trans (zer.one _ (hn B + 2)) ⟨by omega, by omega⟩).trans (zer.one _ (hn B + 3)) ⟨by omega, by omega⟩).trans (zer.one _ (hn B + 4)) ⟨by omega, by omega⟩)
theorem s_I_X4 {d : Nat} {B : HP} {I : IM} {Post : Out → HP → Prop} {a : Nat} (hk : hK B a = (14, 0)) (ha : a < hn B) (hp : ∀ J : IM, zer I J (hn B) (hn B + 2) → Post (.inl none) (wI (run (oX4 a (hn B)) B) J)) : Sp (d + 1) k_X4_init [.ref a] (wI B I) Post := by
  refine Sp_intro md_X4_init rfl rfl (fun G hG => ?_)
  show G 0 [some (.ref a)] [] (wI B I)
  refine q_aload_n hG rfl rfl ?_
  refine q_objI hG rfl rfl ?_
  refine q_aload_n hG rfl rfl ?_
  refine q_bipush (v := 6) hG rfl rfl ?_
  refine q_newarr hG rfl ⟨by omega, by omega⟩ ?_
  refine q_putR hG rfl (show hK (run [(0, 1, 6, 6)] B) a = (14, 0) from ((run_K _ ha).1.trans hk)) ?_
  refine q_aload_n hG rfl rfl ?_
  refine q_bipush (v := 10) hG rfl rfl ?_
  refine q_newarr hG rfl ⟨by omega, by omega⟩ ?_
  refine q_putR hG rfl (show hK (run [(0, 1, 6, 6), (1, a, 0, hn B), (0, 1, 10, 10)] B) a = (14, 0) from ((run_K _ ha).1.trans hk)) ?_
  refine q_vret hG rfl ?_
  exact hp _ ((zer.one I (hn B)).trans (zer.one _ (hn B + 1)) ⟨by omega, by omega⟩)
theorem s_I_J5 {d : Nat} {B : HP} {I : IM} {Post : Out → HP → Prop} {a : Nat} (hk : hK B a = (20, 0)) (ha : a < hn B) (hz : I a = fun _ => 0) (hp : ∀ J : IM, zer I J (hn B) (hn B + 1) → Post (.inl none) (wI (run (oJ a (hn B)) B) J)) : Sp (d + 1) k_J5_init_d00df [.ref a, .int (i3 (16))] (wI B I) Post := by
  refine Sp_intro md_J5_init_d00df rfl rfl (fun G hG => ?_)
  show G 0 [some (.ref a), some (.int (i3 (16)))] [] (wI B I)
  refine q_aload_n hG rfl rfl ?_
  refine q_objI hG rfl rfl ?_
  refine q_getst (v := 1) hG rfl rfl ?_
  refine q_if_eq hG rfl ⟨by omega, by omega⟩ (fun q => absurd q (by decide)) (fun _ => ?_)
  refine q_aload_n hG rfl rfl ?_
  refine q_iload_n hG rfl rfl ?_
  refine q_newarr hG rfl ⟨by omega, by omega⟩ ?_
  refine q_putR hG rfl (show hK (run [(0, 4, 16, 16)] B) a = (20, 0) from ((run_K _ ha).1.trans hk)) ?_
  refine q_aload_n hG rfl rfl ?_
  refine q_iconst (v := 0) hG rfl rfl ?_
  refine q_putI4 hG rfl (show hK (run [(0, 4, 16, 16), (1, a, 0, hn B)] B) a = (20, 0) from ((run_K _ ha).1.trans hk)) (by omega) ?_
  refine q_goto hG rfl ?_
  refine q_vret hG rfl ?_
  refine hp _ ?_
  have e : st (zM I (hn B)) a 1 0 = zM I (hn B) := by
    funext b j
    show (if b = a ∧ j = 1 then 0 else zM I (hn B) b j) = zM I (hn B) b j
    split
    · rename_i q
      obtain ⟨q1, q2⟩ := q
      subst q1
      show (0 : Int) = (if b = hn B then 0 else I b j)
      rw [if_neg (by omega), hz]
    · rfl
  rw [e]
  exact zer.one I (hn B)
theorem s_I_J {d : Nat} {B : HP} {I : IM} {Post : Out → HP → Prop} {a : Nat} (hk : hK B a = (20, 0)) (ha : a < hn B) (hz : I a = fun _ => 0) (hp : ∀ J : IM, zer I J (hn B) (hn B + 1) → Post (.inl none) (wI (run (oJ a (hn B)) B) J)) : Sp (d + 2) k_J4_init_da8c8 [.ref a] (wI B I) Post := by
  refine Sp_intro md_J4_init_da8c8 rfl rfl (fun G hG => ?_)
  show G 0 [some (.ref a)] [] (wI B I)
  refine q_aload_n hG rfl rfl ?_
  refine q_bipush (v := 16) hG rfl rfl ?_
  refine q_callI7 hG rfl rfl rfl (s_I_J5 hk ha hz (fun J z => ?_))
  refine q_vret hG rfl ?_
  exact hp J z
def oX2 (a s : Nat) : List OP := (0, 10, 0, 2) :: oX0 s (s + 1) ++ (1, a, 1, s) :: (0, 10, 0, 2) :: oX0 (s + 3) (s + 4) ++ (1, a, 2, s + 3) :: (0, 11, 0, 7) :: oX1 (s + 6) (s + 7) ++ [(1, a, 3, s + 6)]
theorem s_I_X2 {d : Nat} {B : HP} {I : IM} {Post : Out → HP → Prop} {a : Nat} (hk : hK B a = (12, 0)) (ha : a < hn B) (hp : ∀ J : IM, zer I J (hn B) (hn B + 12) → Post (.inl none) (wI (run (oX2 a (hn B)) B) J)) : Sp (d + 2) k_X2_init [.ref a] (wI B I) Post := by
  refine Sp_intro md_X2_init rfl rfl (fun G hG => ?_)
  show G 0 [some (.ref a)] [] (wI B I)
  refine q_aload_n hG rfl rfl ?_
  refine q_objI hG rfl rfl ?_
  refine q_aload_n hG rfl rfl ?_
  refine q_new hG rfl ?_
  refine q_dup hG rfl rfl ?_
  refine q_callI7 hG rfl rfl rfl (s_I_X0 (mkK_eq) (Nat.lt_succ_self _) (fun J1 z1 => ?_))
  refine q_putR hG rfl (show hK (run ((0, 10, 0, 2) :: oX0 (hn B) (hn B + 1)) B) a = (12, 0) from ((run_K _ ha).1.trans hk)) ?_
  refine q_aload_n hG rfl rfl ?_
  refine q_new hG rfl ?_
  refine q_dup hG rfl rfl ?_
  refine q_callI7 hG rfl rfl rfl (s_I_X0 (mkK_eq) (Nat.lt_succ_self _) (fun J2 z2 => ?_))
  refine q_putR hG rfl (show hK (run ((0, 10, 0, 2) :: oX0 (hn B) (hn B + 1) ++ (1, a, 1, hn B) :: (0, 10, 0, 2) :: oX0 (hn B + 3) (hn B + 4)) B) a = (12, 0) from ((run_K _ ha).1.trans hk)) ?_
  refine q_aload_n hG rfl rfl ?_
  refine q_new hG rfl ?_
  refine q_dup hG rfl rfl ?_
  refine q_callI7 hG rfl rfl rfl (s_I_X1 (mkK_eq) (Nat.lt_succ_self _) (fun J3 z3 => ?_))
  refine q_putR hG rfl (show hK (run ((0, 10, 0, 2) :: oX0 (hn B) (hn B + 1) ++ (1, a, 1, hn B) :: (0, 10, 0, 2) :: oX0 (hn B + 3) (hn B + 4) ++ (1, a, 2, hn B + 3) :: (0, 11, 0, 7) :: oX1 (hn B + 6) (hn B + 7)) B) a = (12, 0) from ((run_K _ ha).1.trans hk)) ?_
  refine q_vret hG rfl ?_
  refine hp J3 ?_
  have a1 : zer I J1 (hn B) (hn B + 3) := (zer.one I (hn B)).trans z1 ⟨by omega, by show hn B + 1 ≤ hn B + 1 + 2; omega⟩
  have a2 : zer J1 J2 (hn B + 3) (hn B + 6) := (zer.one J1 (hn B + 3)).trans z2 ⟨by omega, by show hn B + 3 + 1 ≤ hn B + 3 + 1 + 2; omega⟩
  have a3 : zer J2 J3 (hn B + 6) (hn B + 12) := (zer.one J2 (hn B + 6)).trans z3 ⟨by omega, by show hn B + 6 + 1 ≤ hn B + 6 + 1 + 5; omega⟩
  exact (a1.trans a2 ⟨by omega, by omega⟩).trans a3 ⟨by omega, by omega⟩
theorem run_app : ∀ (l m : List OP) (B : HP), run (l ++ m) B = run m (run l B)
  | [], _, _ => rfl
  | o :: l, m, B => run_app l m (run1 o B)
theorem run_n : ∀ (l : List OP) (B : HP), hn (run l B) = hn B + cnt l
  | [], _ => rfl
  | (0, k, n, w) :: l, B => by
    show hn (run l (mk B (k, n) w)) = hn B + (cnt l + 1)
    rw [run_n l]
    show hn B + 1 + cnt l = _
    omega
  | (1, a, i, v) :: l, B => by
    show hn (run l (sR B a i (some v))) = hn B + cnt l
    rw [run_n l]
    rfl
  | (t + 2, a, c, n) :: l, B => by
    show hn (run l (mkG B 6 1 c n)) = hn B + (cnt l + (c + 1))
    rw [run_n l]
    show hn B + 1 + c + cnt l = _
    omega
/-- fields of cells from b on alone are set -/
def gea (b : Nat) : List OP → Prop
  | [] => True
  | (1, a, _, _) :: l => b ≤ a ∧ gea b l
  | _ :: l => gea b l
theorem run_R : ∀ (l : List OP) {B : HP} {b c : Nat}, b < hn B → b < c → gea c l → hR (run l B) b = hR B b
  | [], _, _, _, _, _, _ => rfl
  | (0, k, n, w) :: l, B, b, c, h, h2, h3 => by
    refine (run_R l (B := mk B (k, n) w) (Nat.lt_succ_of_lt h) h2 h3).trans ?_
    funext i
    exact if_neg (by omega)
  | (1, a, i, v) :: l, B, b, c, h, h2, h3 => by
    have h4 : c ≤ a ∧ gea c l := h3
    refine (run_R l (B := sR B a i (some v)) h h2 h4.2).trans ?_
    funext j
    exact if_neg (by omega)
  | (t + 2, a, k, n) :: l, B, b, c, h, h2, h3 => by
    refine (run_R l (B := mkG B 6 1 k n) (by show b < hn B + 1 + k; omega) h2 h3).trans ?_
    funext i
    show (if b = hn B then _ else if hn B ≤ b ∧ b ≤ hn B + k then none else hR B b i) = _
    rw [if_neg (by omega), if_neg (by omega)]
theorem gea_X2 {b a s : Nat} (h : b ≤ a) (h2 : b ≤ s) : gea b (oX2 a s) := by
  show b ≤ s ∧ b ≤ s ∧ b ≤ a ∧ b ≤ s + 3 ∧ b ≤ s + 3 ∧ b ≤ a ∧ b ≤ s + 6 ∧ b ≤ s + 6 ∧ b ≤ s + 6 ∧ b ≤ s + 6 ∧ b ≤ s + 6 ∧ b ≤ a ∧ True
  exact ⟨by omega, by omega, by omega, by omega, by omega, by omega, by omega, by omega, by omega, by omega, by omega, by omega, trivial⟩
/-- the ring, k places of it made -/
def oRg (a s : Nat) : Nat → List OP
  | 0 => [(0, 7, 9, 9), (1, a, 2, s)]
  | k + 1 => oRg a s k ++ ((0, 12, 0, 6) :: oX2 (s + 1 + 13 * k) (s + 2 + 13 * k) ++ [(1, s, k, s + 1 + 13 * k)])
theorem cnt_app : ∀ (l m : List OP), cnt (l ++ m) = cnt l + cnt m
  | [], m => (Nat.zero_add _).symm
  | (0, k, n, w) :: l, m => by
    show cnt (l ++ m) + 1 = cnt l + 1 + cnt m
    rw [cnt_app l m]; omega
  | (1, a, i, v) :: l, m => cnt_app l m
  | (t + 2, a, c, n) :: l, m => by
    show cnt (l ++ m) + (c + 1) = cnt l + (c + 1) + cnt m
    rw [cnt_app l m]; omega
theorem cnt_Rg (a s : Nat) : ∀ k : Nat, cnt (oRg a s k) = 1 + 13 * k
  | 0 => rfl
  | k + 1 => by
    show cnt (oRg a s k ++ ((0, 12, 0, 6) :: oX2 (s + 1 + 13 * k) (s + 2 + 13 * k) ++ [(1, s, k, s + 1 + 13 * k)])) = _
    rw [cnt_app, cnt_Rg a s k]
    show 1 + 13 * k + 13 = _
    omega

theorem s_I_X3 {d : Nat} {B : HP} {I : IM} {Post : Out → HP → Prop} {a : Nat} (hk : hK B a = (13, 0)) (ha : a < hn B) (hp : ∀ J : IM, zer I J (hn B) (hn B + 118) → Post (.inl none) (wI (run (oRg a (hn B) 9) B) J)) : Sp (d + 3) k_X3_init [.ref a] (wI B I) Post := by
  refine Sp_intro md_X3_init rfl rfl (fun G hG => ?_)
  have lp : ∀ (mz : Nat) (k : Nat) (J : IM), 9 - k = mz → k ≤ 9 → zer I J (hn B) (hn B + (1 + 13 * k)) → hR (run (oRg a (hn B) k) B) a 2 = some (hn B) → hK (run (oRg a (hn B) k) B) (hn B) = (7, 9) → G 15 [some (.ref a), some (.int (i3 (k : Int)))] [] (wI (run (oRg a (hn B) k) B) J) := by
    intro mz
    induction mz using Nat.strongRecOn with
    | ind mz ih =>
      intro k J hme hk9 hz hR2 hK7
      have hkA : hK (run (oRg a (hn B) k) B) a = (13, 0) := (run_K _ ha).1.trans hk
      have hnR : hn (run (oRg a (hn B) k) B) = hn B + (1 + 13 * k) := by rw [run_n, cnt_Rg]
      refine q_iload_n hG rfl rfl ?_
      refine q_bipush (v := 9) hG rfl rfl ?_
      refine q_icmp_ge hG rfl ⟨by omega, by omega⟩ ⟨by omega, by omega⟩ (fun hc18 => ?_) (fun hc18 => ?_)
      · refine q_vret hG rfl ?_
        have e9 : k = 9 := by omega
        subst e9
        exact hp J hz
      · refine q_aload_n hG rfl rfl ?_
        refine q_getR hG rfl (by assumption) (by assumption) ?_
        refine q_iload_n hG rfl rfl ?_
        refine q_new hG rfl ?_
        refine q_dup hG rfl rfl ?_
        refine q_callI7 hG rfl rfl rfl (s_I_X2 (B := mk (run (oRg a (hn B) k) B) (12, 0) 6) (mkK_eq) (Nat.lt_succ_self _) (fun J1 z1 => ?_))
        have z1 : zer (zM J (hn (run (oRg a (hn B) k) B))) J1 (hn (run (oRg a (hn B) k) B) + 1) (hn (run (oRg a (hn B) k) B) + 1 + 12) := z1
        rw [hnR] at z1
        have z1 : zer (zM J (hn B + (1 + 13 * k))) J1 (hn B + (1 + 13 * k) + 1) (hn B + (1 + 13 * (k + 1))) := by rw [show hn B + (1 + 13 * (k + 1)) = hn B + (1 + 13 * k) + 1 + 12 by omega]; exact z1
        have ka : hK (run (oX2 (hn (run (oRg a (hn B) k) B)) (hn (mk (run (oRg a (hn B) k) B) (12, 0) 6))) (mk (run (oRg a (hn B) k) B) (12, 0) 6)) (hn B) = (7, 9) := (run_K _ (by show hn B < hn (run (oRg a (hn B) k) B) + 1; omega)).1.trans ((mkK_ne (by omega)).trans hK7)
        have kb : hK (run (oX2 (hn (run (oRg a (hn B) k) B)) (hn (mk (run (oRg a (hn B) k) B) (12, 0) 6))) (mk (run (oRg a (hn B) k) B) (12, 0) 6)) (hn (run (oRg a (hn B) k) B)) = (12, 0) := (run_K _ (Nat.lt_succ_self _)).1.trans mkK_eq
        refine q_aast hG rfl ka kb ⟨by omega, by omega, by omega⟩ ?_
        refine q_iinc (c := 1) hG rfl rfl rfl rfl ?_
        refine q_goto hG rfl ?_
        have eN : hn B + 1 + 13 * k = hn B + (1 + 13 * k) := by omega
        have hs1 : run (oRg a (hn B) (k + 1)) B = sR (run (oX2 (hn B + 1 + 13 * k) (hn B + 2 + 13 * k)) (mk (run (oRg a (hn B) k) B) (12, 0) 6)) (hn B) k (some (hn B + 1 + 13 * k)) := by
          show run (oRg a (hn B) k ++ _) B = _
          rw [run_app]
          show run (oX2 (hn B + 1 + 13 * k) (hn B + 2 + 13 * k) ++ [(1, hn B, k, hn B + 1 + 13 * k)]) (mk (run (oRg a (hn B) k) B) (12, 0) 6) = _
          rw [run_app]
          rfl
        have hs2 : run (oX2 (hn (run (oRg a (hn B) k) B)) (hn (mk (run (oRg a (hn B) k) B) (12, 0) 6))) (mk (run (oRg a (hn B) k) B) (12, 0) 6) = run (oX2 (hn B + 1 + 13 * k) (hn B + 2 + 13 * k)) (mk (run (oRg a (hn B) k) B) (12, 0) 6) := by
          have e1 : hn (mk (run (oRg a (hn B) k) B) (12, 0) 6) = hn B + 2 + 13 * k := by show hn (run (oRg a (hn B) k) B) + 1 = _; omega
          have e2 : hn (run (oRg a (hn B) k) B) = hn B + 1 + 13 * k := by omega
          rw [e1, e2]
        rw [hs2, hnR, ← eN, show (k : Int).toNat = k by omega, ← hs1]
        refine ih _ (by omega) (k + 1) J1 rfl (by omega) (hz.trans ((zer.one J (hn B + (1 + 13 * k))).trans z1 ⟨by omega, by omega⟩) ⟨by omega, by omega⟩) ?_ ?_
        · rw [hs1]
          show (if a = hn B ∧ 2 = k then _ else hR (run (oX2 (hn B + 1 + 13 * k) (hn B + 2 + 13 * k)) (mk (run (oRg a (hn B) k) B) (12, 0) 6)) a 2) = _
          rw [if_neg (by omega), run_R _ (by show a < hn (run (oRg a (hn B) k) B) + 1; omega) (c := hn B + 1 + 13 * k) (by omega) (gea_X2 (Nat.le_refl _) (by omega))]
          show (if a = hn (run (oRg a (hn B) k) B) then none else hR (run (oRg a (hn B) k) B) a 2) = _
          rw [if_neg (by omega)]
          exact hR2
        · rw [hs1]
          show hK (run (oX2 (hn B + 1 + 13 * k) (hn B + 2 + 13 * k)) (mk (run (oRg a (hn B) k) B) (12, 0) 6)) (hn B) = _
          rw [(run_K _ (by show hn B < hn (run (oRg a (hn B) k) B) + 1; omega)).1]
          exact (mkK_ne (by omega)).trans hK7
  show G 0 [some (.ref a), none] [] (wI B I)
  refine q_aload_n hG rfl rfl ?_
  refine q_objI hG rfl rfl ?_
  refine q_aload_n hG rfl rfl ?_
  refine q_bipush (v := 9) hG rfl rfl ?_
  refine q_anewarr hG rfl ⟨by omega, by omega⟩ ?_
  refine q_putR hG rfl (show hK (run [(0, 7, 9, 9)] B) a = (13, 0) from ((run_K _ ha).1.trans hk)) ?_
  refine q_iconst (v := 0) hG rfl rfl ?_
  refine q_istore_n hG rfl rfl ?_
  exact lp _ 0 _ rfl (by omega) (zer.one I (hn B)) (if_pos ⟨rfl, rfl⟩) (if_pos rfl)
def oX6 (a s : Nat) : List OP := (0, 1, 6, 6) :: (1, a, 0, s) :: (0, 14, 0, 2) :: oX4 (s + 1) (s + 2) ++ [(1, a, 2, s + 1)]
def oX7 (a s : Nat) : List OP := (0, 20, 0, 4) :: oJ s (s + 1) ++ [(1, a, 0, s), (0, 1, 12, 12), (1, a, 3, s + 2), (0, 3, 12, 12), (1, a, 4, s + 3), (2, 0, 12, 3), (1, a, 5, s + 4)]
theorem s_I_X5 {d : Nat} {B : HP} {I : IM} {Post : Out → HP → Prop} {a : Nat} (hp : Post (.inl none) (wI B I)) : Sp (d + 1) k_X5_init [.ref a] (wI B I) Post := by
  refine Sp_intro md_X5_init rfl rfl (fun G hG => ?_)
  show G 0 [some (.ref a)] [] (wI B I)
  refine q_aload_n hG rfl rfl ?_
  refine q_objI hG rfl rfl ?_
  refine q_vret hG rfl ?_
  exact hp
theorem s_I_X6 {d : Nat} {B : HP} {I : IM} {Post : Out → HP → Prop} {a : Nat} (hk : hK B a = (16, 0)) (ha : a < hn B) (hp : ∀ J : IM, zer I J (hn B) (hn B + 4) → Post (.inl none) (wI (run (oX6 a (hn B)) B) J)) : Sp (d + 2) k_X6_init [.ref a] (wI B I) Post := by
  refine Sp_intro md_X6_init rfl rfl (fun G hG => ?_)
  show G 0 [some (.ref a)] [] (wI B I)
  refine q_aload_n hG rfl rfl ?_
  refine q_objI hG rfl rfl ?_
  refine q_aload_n hG rfl rfl ?_
  refine q_bipush (v := 6) hG rfl rfl ?_
  refine q_newarr hG rfl ⟨by omega, by omega⟩ ?_
  refine q_putR hG rfl (show hK (run ([(0, 1, 6, 6)]) B) a = (16, 0) from ((run_K _ ha).1.trans hk)) ?_
  refine q_aload_n hG rfl rfl ?_
  refine q_new hG rfl ?_
  refine q_dup hG rfl rfl ?_
  refine q_callI7 hG rfl rfl rfl (s_I_X4 (mkK_eq) (Nat.lt_succ_self _) (fun J1 z1 => ?_))
  refine q_putR hG rfl (show hK (run ((0, 1, 6, 6) :: (1, a, 0, hn B) :: (0, 14, 0, 2) :: oX4 (hn B + 1) (hn B + 2)) B) a = (16, 0) from ((run_K _ ha).1.trans hk)) ?_
  refine q_vret hG rfl ?_
  refine hp J1 ?_
  have a1 : zer I (zM (zM I (hn B)) (hn B + 1)) (hn B) (hn B + 2) := (zer.one I (hn B)).trans (zer.one _ (hn B + 1)) ⟨by omega, by omega⟩
  exact a1.trans z1 ⟨by omega, by show hn B + 2 ≤ hn B + 1 + 1 + 2; omega⟩
theorem s_I_X7 {d : Nat} {B : HP} {I : IM} {Post : Out → HP → Prop} {a : Nat} (hk : hK B a = (17, 0)) (ha : a < hn B) (hp : ∀ J : IM, zer I J (hn B) (hn B + 17) → Post (.inl none) (wI (run (oX7 a (hn B)) B) J)) : Sp (d + 3) k_X7_init [.ref a] (wI B I) Post := by
  refine Sp_intro md_X7_init rfl rfl (fun G hG => ?_)
  show G 0 [some (.ref a)] [] (wI B I)
  refine q_aload_n hG rfl rfl ?_
  refine q_objI hG rfl rfl ?_
  refine q_aload_n hG rfl rfl ?_
  refine q_new hG rfl ?_
  refine q_dup hG rfl rfl ?_
  refine q_callI7 hG rfl rfl rfl (s_I_J (mkK_eq) (Nat.lt_succ_self _) (funext (fun j => if_pos rfl)) (fun J1 z1 => ?_))
  refine q_putR hG rfl (show hK (run ((0, 20, 0, 4) :: oJ (hn B) (hn B + 1)) B) a = (17, 0) from ((run_K _ ha).1.trans hk)) ?_
  refine q_aload_n hG rfl rfl ?_
  refine q_bipush (v := 12) hG rfl rfl ?_
  refine q_newarr hG rfl ⟨by omega, by omega⟩ ?_
  refine q_putR hG rfl (show hK (run ((0, 20, 0, 4) :: oJ (hn B) (hn B + 1) ++ [(1, a, 0, hn B), (0, 1, 12, 12)]) B) a = (17, 0) from ((run_K _ ha).1.trans hk)) ?_
  refine q_aload_n hG rfl rfl ?_
  refine q_bipush (v := 12) hG rfl rfl ?_
  refine q_newarr hG rfl ⟨by omega, by omega⟩ ?_
  refine q_putR hG rfl (show hK (run ((0, 20, 0, 4) :: oJ (hn B) (hn B + 1) ++ [(1, a, 0, hn B), (0, 1, 12, 12), (1, a, 3, hn B + 2), (0, 3, 12, 12)]) B) a = (17, 0) from ((run_K _ ha).1.trans hk)) ?_
  refine q_aload_n hG rfl rfl ?_
  refine q_bipush (v := 12) hG rfl rfl ?_
  refine q_iconst (v := 3) hG rfl rfl ?_
  refine q_mna hG rfl (by decide) (by decide) ?_
  refine q_putR hG rfl (show hK (run ((0, 20, 0, 4) :: oJ (hn B) (hn B + 1) ++ [(1, a, 0, hn B), (0, 1, 12, 12), (1, a, 3, hn B + 2), (0, 3, 12, 12), (1, a, 4, hn B + 3), (2, 0, 12, 3)]) B) a = (17, 0) from ((run_K _ ha).1.trans hk)) ?_
  refine q_vret hG rfl ?_
  refine hp _ ?_
  have a1 : zer I J1 (hn B) (hn B + 2) := (zer.one I (hn B)).trans z1 ⟨by omega, by show hn B + 1 ≤ hn B + 1 + 1; omega⟩
  have a2 := (a1.trans (zer.one J1 (hn B + 2)) ⟨by omega, by omega⟩).trans (zer.one _ (hn B + 3)) ⟨by omega, by omega⟩
  exact a2.trans (zer.grp _ (hn B + 4) 12) ⟨by omega, by omega⟩
theorem run_new (P : List OP) (B : HP) (oX : Nat → Nat → List OP) {k w a f c : Nat} (hc : cnt P = c) : sR (run (oX (hn (run P B)) (hn (mk (run P B) (k, 0) w))) (mk (run P B) (k, 0) w)) a f (some (hn (run P B))) = run (P ++ ((0, k, 0, w) :: oX (hn B + c) (hn B + c + 1) ++ [(1, a, f, hn B + c)])) B := by
  have e : hn (run P B) = hn B + c := by rw [run_n, hc]
  have e2 : hn (mk (run P B) (k, 0) w) = hn B + c + 1 := by
    show hn (run P B) + 1 = _
    rw [e]
  rw [e2, e, run_app]
  show _ = run (oX (hn B + c) (hn B + c + 1) ++ [(1, a, f, hn B + c)]) (mk (run P B) (k, 0) w)
  rw [run_app]
  rfl
theorem zer_new {P : List OP} {B : HP} {k w c n : Nat} {J J' : IM} (hc : cnt P = c) (z : zer (zM J (hn (run P B))) J' (hn (mk (run P B) (k, 0) w)) (hn (mk (run P B) (k, 0) w) + n)) : zer J J' (hn B + c) (hn B + c + 1 + n) := by
  have e : hn (run P B) = hn B + c := by rw [run_n, hc]
  have e2 : hn (mk (run P B) (k, 0) w) = hn B + c + 1 := by
    show hn (run P B) + 1 = _
    rw [e]
  rw [e2, e] at z
  exact (zer.one J (hn B + c)).trans z ⟨by omega, by omega⟩
theorem kp_new (P X : List OP) {B : HP} {k w a : Nat} (ha : a < hn B) : hK (run X (mk (run P B) (k, 0) w)) a = hK B a := by
  have h := run_K P ha
  rw [(run_K X (B := mk (run P B) (k, 0) w) (b := a) (by show a < hn (run P B) + 1; omega)).1]
  exact (mkK_ne (by omega)).trans h.1
def p8_0 (a s : Nat) : List OP := []
theorem c8_0 (a s : Nat) : cnt (p8_0 a s) = 0 := rfl
def p8_1 (a s : Nat) : List OP := p8_0 a s ++ ((0, 12, 0, 6) :: oX2 (s + 0) (s + 0 + 1) ++ [(1, a, 0, s + 0)])
theorem c8_1 (a s : Nat) : cnt (p8_1 a s) = 13 := by
  unfold p8_1
  rw [cnt_app, c8_0]
  rfl
def p8_2 (a s : Nat) : List OP := p8_1 a s ++ ((0, 13, 0, 3) :: (fun b t => oRg b t 9) (s + 13) (s + 13 + 1) ++ [(1, a, 1, s + 13)])
theorem c8_2 (a s : Nat) : cnt (p8_2 a s) = 132 := by
  unfold p8_2
  rw [cnt_app, c8_1]
  show 13 + (cnt (oRg (s + 13) (s + 13 + 1) 9 ++ [(1, a, 1, s + 13)]) + 1) = _
  rw [cnt_app, cnt_Rg]
  rfl
def p8_3 (a s : Nat) : List OP := p8_2 a s ++ ((0, 12, 0, 6) :: oX2 (s + 132) (s + 132 + 1) ++ [(1, a, 2, s + 132)])
theorem c8_3 (a s : Nat) : cnt (p8_3 a s) = 145 := by
  unfold p8_3
  rw [cnt_app, c8_2]
  rfl
def p8_4 (a s : Nat) : List OP := p8_3 a s ++ ((0, 10, 0, 2) :: oX0 (s + 145) (s + 145 + 1) ++ [(1, a, 4, s + 145)])
theorem c8_4 (a s : Nat) : cnt (p8_4 a s) = 148 := by
  unfold p8_4
  rw [cnt_app, c8_3]
  rfl
def p8_5 (a s : Nat) : List OP := p8_4 a s ++ ((0, 15, 0, 3) :: (fun _ _ => []) (s + 148) (s + 148 + 1) ++ [(1, a, 5, s + 148)])
theorem c8_5 (a s : Nat) : cnt (p8_5 a s) = 149 := by
  unfold p8_5
  rw [cnt_app, c8_4]
  rfl
def p8_6 (a s : Nat) : List OP := p8_5 a s ++ ((0, 14, 0, 2) :: oX4 (s + 149) (s + 149 + 1) ++ [(1, a, 6, s + 149)])
theorem c8_6 (a s : Nat) : cnt (p8_6 a s) = 152 := by
  unfold p8_6
  rw [cnt_app, c8_5]
  rfl
def p8_7 (a s : Nat) : List OP := p8_6 a s ++ ((0, 16, 0, 3) :: oX6 (s + 152) (s + 152 + 1) ++ [(1, a, 7, s + 152)])
theorem c8_7 (a s : Nat) : cnt (p8_7 a s) = 157 := by
  unfold p8_7
  rw [cnt_app, c8_6]
  rfl
def p8_8 (a s : Nat) : List OP := p8_7 a s ++ ((0, 20, 0, 4) :: oJ (s + 157) (s + 157 + 1) ++ [(1, a, 8, s + 157)])
theorem c8_8 (a s : Nat) : cnt (p8_8 a s) = 159 := by
  unfold p8_8
  rw [cnt_app, c8_7]
  rfl
def p8_9 (a s : Nat) : List OP := p8_8 a s ++ ((0, 17, 0, 6) :: oX7 (s + 159) (s + 159 + 1) ++ [(1, a, 9, s + 159)])
theorem c8_9 (a s : Nat) : cnt (p8_9 a s) = 177 := by
  unfold p8_9
  rw [cnt_app, c8_8]
  rfl
theorem s_I_X8 {d : Nat} {B : HP} {I : IM} {Post : Out → HP → Prop} {a : Nat} (hk : hK B a = (18, 0)) (ha : a < hn B) (hp : ∀ J : IM, zer I J (hn B) (hn B + 177) → Post (.inl none) (wI (run (p8_9 a (hn B)) B) (st J a 10 (-1)))) : Sp (d + 4) k_X8_init [.ref a] (wI B I) Post := by
  refine Sp_intro md_X8_init rfl rfl (fun G hG => ?_)
  show G 0 [some (.ref a)] [] (wI (run (p8_0 a (hn B)) B) I)
  refine q_aload_n hG rfl rfl ?_
  refine q_objI hG rfl rfl ?_
  refine q_aload_n hG rfl rfl ?_
  refine q_new hG rfl ?_
  refine q_dup hG rfl rfl ?_
  refine q_callI7 hG rfl rfl rfl (s_I_X2 (B := (mk (run (p8_0 a (hn B)) B) (12, 0) 6)) (mkK_eq) (Nat.lt_succ_self _) (fun J1 z1 => ?_))
  have y1 := zer_new (c8_0 a (hn B)) z1
  refine q_putR hG rfl ((kp_new (p8_0 a (hn B)) (oX2 (hn (run (p8_0 a (hn B)) B)) (hn (mk (run (p8_0 a (hn B)) B) (12, 0) 6))) ha).trans hk) ?_
  rw [show sR (run (oX2 (hn (run (p8_0 a (hn B)) B)) (hn (mk (run (p8_0 a (hn B)) B) (12, 0) 6))) (mk (run (p8_0 a (hn B)) B) (12, 0) 6)) a 0 (some (hn (run (p8_0 a (hn B)) B))) = (run (p8_1 a (hn B)) B) from run_new (p8_0 a (hn B)) B oX2 (c8_0 a (hn B))]
  refine q_aload_n hG rfl rfl ?_
  refine q_new hG rfl ?_
  refine q_dup hG rfl rfl ?_
  refine q_callI7 hG rfl rfl rfl (s_I_X3 (B := (mk (run (p8_1 a (hn B)) B) (13, 0) 3)) (mkK_eq) (Nat.lt_succ_self _) (fun J2 z2 => ?_))
  have y2 := zer_new (c8_1 a (hn B)) z2
  refine q_putR hG rfl ((kp_new (p8_1 a (hn B)) ((fun b t => oRg b t 9) (hn (run (p8_1 a (hn B)) B)) (hn (mk (run (p8_1 a (hn B)) B) (13, 0) 3))) ha).trans hk) ?_
  rw [show sR (run ((fun b t => oRg b t 9) (hn (run (p8_1 a (hn B)) B)) (hn (mk (run (p8_1 a (hn B)) B) (13, 0) 3))) (mk (run (p8_1 a (hn B)) B) (13, 0) 3)) a 1 (some (hn (run (p8_1 a (hn B)) B))) = (run (p8_2 a (hn B)) B) from run_new (p8_1 a (hn B)) B (fun b t => oRg b t 9) (c8_1 a (hn B))]
  refine q_aload_n hG rfl rfl ?_
  refine q_new hG rfl ?_
  refine q_dup hG rfl rfl ?_
  refine q_callI7 hG rfl rfl rfl (s_I_X2 (B := (mk (run (p8_2 a (hn B)) B) (12, 0) 6)) (mkK_eq) (Nat.lt_succ_self _) (fun J3 z3 => ?_))
  have y3 := zer_new (c8_2 a (hn B)) z3
  refine q_putR hG rfl ((kp_new (p8_2 a (hn B)) (oX2 (hn (run (p8_2 a (hn B)) B)) (hn (mk (run (p8_2 a (hn B)) B) (12, 0) 6))) ha).trans hk) ?_
  rw [show sR (run (oX2 (hn (run (p8_2 a (hn B)) B)) (hn (mk (run (p8_2 a (hn B)) B) (12, 0) 6))) (mk (run (p8_2 a (hn B)) B) (12, 0) 6)) a 2 (some (hn (run (p8_2 a (hn B)) B))) = (run (p8_3 a (hn B)) B) from run_new (p8_2 a (hn B)) B oX2 (c8_2 a (hn B))]
  refine q_aload_n hG rfl rfl ?_
  refine q_new hG rfl ?_
  refine q_dup hG rfl rfl ?_
  refine q_callI7 hG rfl rfl rfl (s_I_X0 (B := (mk (run (p8_3 a (hn B)) B) (10, 0) 2)) (mkK_eq) (Nat.lt_succ_self _) (fun J4 z4 => ?_))
  have y4 := zer_new (c8_3 a (hn B)) z4
  refine q_putR hG rfl ((kp_new (p8_3 a (hn B)) (oX0 (hn (run (p8_3 a (hn B)) B)) (hn (mk (run (p8_3 a (hn B)) B) (10, 0) 2))) ha).trans hk) ?_
  rw [show sR (run (oX0 (hn (run (p8_3 a (hn B)) B)) (hn (mk (run (p8_3 a (hn B)) B) (10, 0) 2))) (mk (run (p8_3 a (hn B)) B) (10, 0) 2)) a 4 (some (hn (run (p8_3 a (hn B)) B))) = (run (p8_4 a (hn B)) B) from run_new (p8_3 a (hn B)) B oX0 (c8_3 a (hn B))]
  refine q_aload_n hG rfl rfl ?_
  refine q_new hG rfl ?_
  refine q_dup hG rfl rfl ?_
  refine q_callI7 hG rfl rfl rfl (s_I_X5 (B := (mk (run (p8_4 a (hn B)) B) (15, 0) 3)) ?_)
  refine q_putR hG rfl ((kp_new (p8_4 a (hn B)) [] ha).trans hk) ?_
  rw [show sR (mk (run (p8_4 a (hn B)) B) (15, 0) 3) a 5 (some (hn (run (p8_4 a (hn B)) B))) = (run (p8_5 a (hn B)) B) from run_new (p8_4 a (hn B)) B (fun _ _ => []) (c8_4 a (hn B))]
  refine q_aload_n hG rfl rfl ?_
  refine q_new hG rfl ?_
  refine q_dup hG rfl rfl ?_
  refine q_callI7 hG rfl rfl rfl (s_I_X4 (B := (mk (run (p8_5 a (hn B)) B) (14, 0) 2)) (mkK_eq) (Nat.lt_succ_self _) (fun J6 z6 => ?_))
  have y6 := zer_new (c8_5 a (hn B)) z6
  refine q_putR hG rfl ((kp_new (p8_5 a (hn B)) (oX4 (hn (run (p8_5 a (hn B)) B)) (hn (mk (run (p8_5 a (hn B)) B) (14, 0) 2))) ha).trans hk) ?_
  rw [show sR (run (oX4 (hn (run (p8_5 a (hn B)) B)) (hn (mk (run (p8_5 a (hn B)) B) (14, 0) 2))) (mk (run (p8_5 a (hn B)) B) (14, 0) 2)) a 6 (some (hn (run (p8_5 a (hn B)) B))) = (run (p8_6 a (hn B)) B) from run_new (p8_5 a (hn B)) B oX4 (c8_5 a (hn B))]
  refine q_aload_n hG rfl rfl ?_
  refine q_new hG rfl ?_
  refine q_dup hG rfl rfl ?_
  refine q_callI7 hG rfl rfl rfl (s_I_X6 (B := (mk (run (p8_6 a (hn B)) B) (16, 0) 3)) (mkK_eq) (Nat.lt_succ_self _) (fun J7 z7 => ?_))
  have y7 := zer_new (c8_6 a (hn B)) z7
  refine q_putR hG rfl ((kp_new (p8_6 a (hn B)) (oX6 (hn (run (p8_6 a (hn B)) B)) (hn (mk (run (p8_6 a (hn B)) B) (16, 0) 3))) ha).trans hk) ?_
  rw [show sR (run (oX6 (hn (run (p8_6 a (hn B)) B)) (hn (mk (run (p8_6 a (hn B)) B) (16, 0) 3))) (mk (run (p8_6 a (hn B)) B) (16, 0) 3)) a 7 (some (hn (run (p8_6 a (hn B)) B))) = (run (p8_7 a (hn B)) B) from run_new (p8_6 a (hn B)) B oX6 (c8_6 a (hn B))]
  refine q_aload_n hG rfl rfl ?_
  refine q_new hG rfl ?_
  refine q_dup hG rfl rfl ?_
  refine q_callI7 hG rfl rfl rfl (s_I_J (B := (mk (run (p8_7 a (hn B)) B) (20, 0) 4)) (mkK_eq) (Nat.lt_succ_self _) (funext (fun j => if_pos rfl)) (fun J8 z8 => ?_))
  have y8 := zer_new (c8_7 a (hn B)) z8
  refine q_putR hG rfl ((kp_new (p8_7 a (hn B)) (oJ (hn (run (p8_7 a (hn B)) B)) (hn (mk (run (p8_7 a (hn B)) B) (20, 0) 4))) ha).trans hk) ?_
  rw [show sR (run (oJ (hn (run (p8_7 a (hn B)) B)) (hn (mk (run (p8_7 a (hn B)) B) (20, 0) 4))) (mk (run (p8_7 a (hn B)) B) (20, 0) 4)) a 8 (some (hn (run (p8_7 a (hn B)) B))) = (run (p8_8 a (hn B)) B) from run_new (p8_7 a (hn B)) B oJ (c8_7 a (hn B))]
  refine q_aload_n hG rfl rfl ?_
  refine q_new hG rfl ?_
  refine q_dup hG rfl rfl ?_
  refine q_callI7 hG rfl rfl rfl (s_I_X7 (B := (mk (run (p8_8 a (hn B)) B) (17, 0) 6)) (mkK_eq) (Nat.lt_succ_self _) (fun J9 z9 => ?_))
  have y9 := zer_new (c8_8 a (hn B)) z9
  refine q_putR hG rfl ((kp_new (p8_8 a (hn B)) (oX7 (hn (run (p8_8 a (hn B)) B)) (hn (mk (run (p8_8 a (hn B)) B) (17, 0) 6))) ha).trans hk) ?_
  rw [show sR (run (oX7 (hn (run (p8_8 a (hn B)) B)) (hn (mk (run (p8_8 a (hn B)) B) (17, 0) 6))) (mk (run (p8_8 a (hn B)) B) (17, 0) 6)) a 9 (some (hn (run (p8_8 a (hn B)) B))) = (run (p8_9 a (hn B)) B) from run_new (p8_8 a (hn B)) B oX7 (c8_8 a (hn B))]
  refine q_aload_n hG rfl rfl ?_
  refine q_iconst (v := -1) hG rfl rfl ?_
  refine q_putI0 hG rfl ((run_K (p8_9 a (hn B)) ha).1.trans hk) ?_
  refine q_vret hG rfl ?_
  refine hp _ ?_
  have y5 : zer J4 (zM J4 (hn (run (p8_4 a (hn B)) B))) (hn B + 148) (hn B + 149) := by
    have e : hn (run (p8_4 a (hn B)) B) = hn B + 148 := by rw [run_n, c8_4]
    rw [e]
    exact zer.one J4 (hn B + 148)
  exact (((((((y1.trans y2 ⟨by omega, by omega⟩).trans y3 ⟨by omega, by omega⟩).trans y4 ⟨by omega, by omega⟩).trans y5 ⟨by omega, by omega⟩).trans y6 ⟨by omega, by omega⟩).trans y7 ⟨by omega, by omega⟩).trans y8 ⟨by omega, by omega⟩).trans y9 ⟨by omega, by omega⟩
def oX9 (m s : Nat) : List OP := [(0, 1, 948, 948), (1, m, 1, s), (0, 2, 54, 54), (1, m, 12, s + 1), (0, 3, 40, 40), (1, m, 13, s + 2), (0, 3, 60, 60), (1, m, 15, s + 3), (0, 1, 244, 244), (1, m, 20, s + 4)]
