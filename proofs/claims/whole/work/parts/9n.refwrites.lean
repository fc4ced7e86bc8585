/-! the reference writes -/
def wrR (I : IM) (m : Nat) (l : List Int) : Prop := I m 14 = (l.length : Int) ∧ (∀ i, i < l.length → I (m + 3) i = l.getD i 0) ∧ chL l
/-- only the output changes -/
def ofr (I J : IM) (m : Nat) : Prop := (∀ a, a ≠ m → a ≠ m + 3 → J a = I a) ∧ ∀ k, k ≠ 14 → J m k = I m k
theorem ofr.refl (I : IM) (m : Nat) : ofr I I m := ⟨fun _ _ _ => rfl, fun _ _ => rfl⟩
theorem ofr.trans {I J K : IM} {m : Nat} (h : ofr I J m) (h2 : ofr J K m) : ofr I K m := ⟨fun a p q => (h2.1 a p q).trans (h.1 a p q), fun k q => (h2.2 k q).trans (h.2 k q)⟩
theorem tdP (u : Nat) : (u : Int).tdiv 10 = ((u / 10 : Nat) : Int) := by
  show ((u : Int).tdiv ((10 : Nat) : Int)) = _
  rw [← Int.ofNat_tdiv]
theorem wrR.push {I J : IM} {m : Nat} {l : List Int} (h : wrR I m l) {c : Int} (hc : 0 ≤ c ∧ c < 128) (h1 : J m 14 = ((l.length + 1 : Nat) : Int)) (hlo : ∀ i, i < l.length → J (m + 3) i = I (m + 3) i) (hhi : J (m + 3) l.length = c) : wrR J m (l ++ [c]) := by
  refine ⟨by rw [h1, List.length_append]; rfl, fun i hi => ?_, h.2.2.app (chL.one hc)⟩
  rw [List.length_append] at hi
  have hi : i < l.length + 1 := hi
  rw [getD_app]
  split
  · rename_i h5
    rw [hlo i h5]; exact h.2.1 i h5
  · rename_i h5
    have e : i = l.length := by omega
    subst e
    rw [hhi, Nat.sub_self]
    rfl

theorem s_R_writes {d : Nat} {B : HP} {I : IM} {Post : Out → HP → Prop} {m : Nat} (hm : oM B m) {l : List Int} (hl : wrR I m l) {c : Int} (hc : 0 ≤ c ∧ c < 128) (hr : l.length < 40) (hp : ∀ J : IM, wrR J m (l ++ [c]) → ofr I J m → Post (.inl none) (wI B J)) : Sp (d + 1) k_X9_writes [.ref m, .int (i3 (c))] (wI B I) Post := by
  refine Sp_intro md_X9_writes rfl rfl (fun G hG => ?_)
  have hm0 := hm
  obtain ⟨n1, n2, n3, n4, n5, n6, n7, n8, n9, n10, n11⟩ := hm
  have hl0 := hl
  obtain ⟨l1, l2, l3⟩ := hl
  show G 0 [some (.ref m), some (.int (i3 (c)))] [] (wI B I)
  refine q_aload_n hG rfl rfl ?_
  refine q_getR hG rfl (by assumption) (by assumption) ?_
  refine q_aload_n hG rfl rfl ?_
  refine q_getI0v (v := (l.length : Int)) hG rfl (by assumption) (l1) ?_
  refine q_iload_n hG rfl rfl ?_
  refine q_i2c hG rfl ?_
  refine q_cast hG rfl (by assumption) ⟨by omega, by omega, by omega⟩ ⟨by omega, by omega⟩ ?_
  refine q_aload_n hG rfl rfl ?_
  refine q_dup hG rfl rfl ?_
  refine q_getI0v (v := (l.length : Int)) hG rfl (by assumption) (by rw [st_row _ _ (show m ≠ m + 3 by omega)]; exact l1) ?_
  refine q_iconst (v := 1) hG rfl rfl ?_
  refine q_iadd hG rfl ?_
  refine q_putI0 hG rfl (by assumption) ?_
  refine q_vret hG rfl ?_
  have e : c % 65536 = c := by omega
  rw [e]
  refine hp _ (hl0.push hc ?_ (fun i hi => ?_) ?_) ⟨fun a h1 h2 => by rw [st_row _ _ h1, st_row _ _ h2], fun k hk => by rw [st_ne _ _ (fun z => hk z.2), st_row _ _ (show m ≠ m + 3 by omega)]⟩
  · rw [st_same]; omega
  · rw [st_row _ _ (show m + 3 ≠ m by omega), st_ne _ _ (by omega)]
  · rw [st_row _ _ (show m + 3 ≠ m by omega), show (l.length : Int).toNat = l.length by omega, st_same]
theorem s_R_num {B : HP} {m : Nat} (hm : oM B m) : ∀ (f : Nat) {d : Nat} {I : IM} {Post : Out → HP → Prop} {n : Nat} {l : List Int} (hn : n < 10 ^ (f + 1)) (hn9 : n < 1000000000) (hl : wrR I m l) (hr : l.length + (decL n).length ≤ 40) (hp : ∀ J : IM, wrR J m (l ++ decL n) → ofr I J m → Post (.inl none) (wI B J)), Sp (d + f + 2) k_X9_writesNumber [.ref m, .int (i3 (n : Int))] (wI B I) Post := by
  have hm0 := hm
  obtain ⟨n1, n2, n3, n4, n5, n6, n7, n8, n9, n10, n11⟩ := hm
  intro f
  induction f with
  | zero =>
    intro d I Post n l hn hn9 hl hr hp
    have hn : n < 10 := by simpa using hn
    refine Sp_intro md_X9_writesNumber rfl rfl (fun G hG => ?_)
    show G 0 [some (.ref m), some (.int (i3 (n : Int)))] [] (wI B I)
    refine q_iload_n hG rfl rfl ?_
    refine q_bipush (v := 9) hG rfl rfl ?_
    refine q_icmp_le hG rfl ⟨by omega, by omega⟩ ⟨by omega, by omega⟩ (fun hc3 => ?_) (fun hc3 => absurd (by omega) hc3)
    have hlx : l.length + 1 ≤ 40 := by have := decL_pos n; omega
    refine q_aload_n hG rfl rfl ?_
    refine q_bipush (v := 48) hG rfl rfl ?_
    refine q_iload_n hG rfl rfl ?_
    refine q_bipush (v := 10) hG rfl rfl ?_
    refine q_irem hG rfl ⟨by omega, by omega⟩ ⟨by omega, by omega⟩ ?_
    rw [tdP]
    refine q_iadd hG rfl ?_
    rw [show (48 : Int) + ((n : Int) - ((n / 10 : Nat) : Int) * 10) = 48 + ((n % 10 : Nat) : Int) by omega]
    refine q_callV6 hG rfl rfl rfl (by assumption) (s_R_writes (c := 48 + ((n % 10 : Nat) : Int)) hm0 hl (by omega) (by omega) (fun J j1 j2 => ?_))
    refine q_vret hG rfl ?_
    have e : decL n = [48 + ((n % 10 : Nat) : Int)] := by rw [decL_lt (by omega), show n % 10 = n by omega]
    rw [e] at hp
    exact hp J j1 j2
  | succ f ih =>
    intro d I Post n l hn hn9 hl hr hp
    refine Sp_intro md_X9_writesNumber rfl rfl (fun G hG => ?_)
    show G 0 [some (.ref m), some (.int (i3 (n : Int)))] [] (wI B I)
    refine q_iload_n hG rfl rfl ?_
    refine q_bipush (v := 9) hG rfl rfl ?_
    refine q_icmp_le hG rfl ⟨by omega, by omega⟩ ⟨by omega, by omega⟩ (fun hc3 => ?_) (fun hc3 => ?_)
    · have hlx : l.length + 1 ≤ 40 := by have := decL_pos n; omega
      refine q_aload_n hG rfl rfl ?_
      refine q_bipush (v := 48) hG rfl rfl ?_
      refine q_iload_n hG rfl rfl ?_
      refine q_bipush (v := 10) hG rfl rfl ?_
      refine q_irem hG rfl ⟨by omega, by omega⟩ ⟨by omega, by omega⟩ ?_
      rw [tdP]
      refine q_iadd hG rfl ?_
      rw [show (48 : Int) + ((n : Int) - ((n / 10 : Nat) : Int) * 10) = 48 + ((n % 10 : Nat) : Int) by omega]
      refine q_callV6 hG rfl rfl rfl (by assumption) (s_R_writes (c := 48 + ((n % 10 : Nat) : Int)) hm0 hl (by omega) (by omega) (fun J j1 j2 => ?_))
      refine q_vret hG rfl ?_
      have e : decL n = [48 + ((n % 10 : Nat) : Int)] := by rw [decL_lt (by omega), show n % 10 = n by omega]
      rw [e] at hp
      exact hp J j1 j2
    · refine q_aload_n hG rfl rfl ?_
      refine q_iload_n hG rfl rfl ?_
      refine q_bipush (v := 10) hG rfl rfl ?_
      refine q_idiv hG rfl ⟨by omega, by omega⟩ ⟨by omega, by omega⟩ ?_
      rw [tdP]
      have he : decL n = decL (n / 10) ++ [48 + ((n % 10 : Nat) : Int)] := decL_ge (by omega)
      have hlen : (decL n).length = (decL (n / 10)).length + 1 := by rw [he, List.length_append]; rfl
      have hpw : 10 ^ (f + 1 + 1) = 10 * 10 ^ (f + 1) := by rw [Nat.pow_succ, Nat.mul_comm]
      refine q_callV6 hG rfl rfl rfl (by assumption) (ih (d := d) (n := n / 10) (l := l) (by omega) (by omega) hl (by omega) (fun J0 i1 i2 => ?_))
      have hlx2 : (l ++ decL (n / 10)).length + 1 ≤ 40 := by rw [List.length_append]; omega
      refine q_aload_n hG rfl rfl ?_
      refine q_bipush (v := 48) hG rfl rfl ?_
      refine q_iload_n hG rfl rfl ?_
      refine q_bipush (v := 10) hG rfl rfl ?_
      refine q_irem hG rfl ⟨by omega, by omega⟩ ⟨by omega, by omega⟩ ?_
      rw [tdP]
      refine q_iadd hG rfl ?_
      rw [show (48 : Int) + ((n : Int) - ((n / 10 : Nat) : Int) * 10) = 48 + ((n % 10 : Nat) : Int) by omega]
      refine q_callV6 hG rfl rfl rfl (by assumption) (s_R_writes (c := 48 + ((n % 10 : Nat) : Int)) hm0 i1 (by omega) (by omega) (fun J j1 j2 => ?_))
      refine q_vret hG rfl ?_
      rw [List.append_assoc, ← he] at j1
      exact hp J j1 (i2.trans j2)
